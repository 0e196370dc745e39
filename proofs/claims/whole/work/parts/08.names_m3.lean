set_option maxRecDepth 20000 in
theorem ggX8_joinAt_X8_beyond : GoodIn wsX8_joinAt wsX8_beyond := goodIn_r _ [6, 1, 18, 19, 20, 21, 22, 23, 24, 25, 26, 27, 28, 29, 30, 31, 32, 33, 34, 35, 36, 37, 38, 39, 40, 41, 42, 43, 44, 45, 46, 47, 48, 49, 50, 51, 52, 53, 54, 55, 56, 57, 58, 59, 60, 61, 62, 63, 64, 65, 66, 67, 68, 69, 70, 71, 72, 73, 74, 75] (by decide +kernel) (by decide +kernel)
set_option maxRecDepth 20000 in
theorem gX8_joinAt_X8_beyond : GoodIn wsX8_joinAt (wsV RX8 235 RX8 yX8_beyond wsX8_beyond) := goodIn_app (goodIn_of _ (by decide +kernel)) ggX8_joinAt_X8_beyond
set_option maxRecDepth 20000 in
theorem ggX8_joinAt_X8_wire : GoodIn wsX8_joinAt wsX8_wire := goodIn_r _ [10, 1, 11, 12, 13, 5, 14, 15, 16, 17, 18, 19, 20, 21, 22, 23, 24, 25, 26, 27, 28, 29, 30, 31, 32, 33, 34, 35, 36, 37, 38, 39, 40, 41, 42, 43, 44, 45, 46, 47, 48, 49, 50, 51, 52, 53, 54, 55, 56, 57, 58, 59, 60, 61, 62, 63, 64, 65, 66, 67, 68, 69, 70, 71, 72, 73, 74, 75] (by decide +kernel) (by decide +kernel)
set_option maxRecDepth 20000 in
theorem gX8_joinAt_X8_wire : GoodIn wsX8_joinAt (wsV RX8 141 RX8 yX8_wire wsX8_wire) := goodIn_app (goodIn_of _ (by decide +kernel)) ggX8_joinAt_X8_wire
theorem dX8_joinAt_0 : decode cX8_joinAt 0 = .ok (.aload_n 0, 1) := by decide +kernel
theorem dX8_joinAt_1 : decode cX8_joinAt 1 = .ok (.getfield 113, 3) := by decide +kernel
theorem dX8_joinAt_4 : decode cX8_joinAt 4 = .ok (.iconst 3, 1) := by decide +kernel
theorem dX8_joinAt_5 : decode cX8_joinAt 5 = .ok (.iload_n 1, 1) := by decide +kernel
theorem dX8_joinAt_6 : decode cX8_joinAt 6 = .ok (.imul, 1) := by decide +kernel
theorem dX8_joinAt_7 : decode cX8_joinAt 7 = .ok (.iload_n 3, 1) := by decide +kernel
theorem dX8_joinAt_8 : decode cX8_joinAt 8 = .ok (.iadd, 1) := by decide +kernel
theorem dX8_joinAt_9 : decode cX8_joinAt 9 = .ok (.iaload, 1) := by decide +kernel
theorem dX8_joinAt_10 : decode cX8_joinAt 10 = .ok (.istore 4, 2) := by decide +kernel
theorem dX8_joinAt_12 : decode cX8_joinAt 12 = .ok (.iload 4, 2) := by decide +kernel
theorem dX8_joinAt_14 : decode cX8_joinAt 14 = .ok (.iconst 3, 1) := by decide +kernel
theorem dX8_joinAt_15 : decode cX8_joinAt 15 = .ok (.idiv, 1) := by decide +kernel
theorem dX8_joinAt_16 : decode cX8_joinAt 16 = .ok (.iload_n 1, 1) := by decide +kernel
theorem dX8_joinAt_17 : decode cX8_joinAt 17 = .ok (.if_icmp .eq 28, 3) := by decide +kernel
theorem dX8_joinAt_20 : decode cX8_joinAt 20 = .ok (.iload 4, 2) := by decide +kernel
theorem dX8_joinAt_22 : decode cX8_joinAt 22 = .ok (.iconst 3, 1) := by decide +kernel
theorem dX8_joinAt_23 : decode cX8_joinAt 23 = .ok (.idiv, 1) := by decide +kernel
theorem dX8_joinAt_24 : decode cX8_joinAt 24 = .ok (.iload_n 2, 1) := by decide +kernel
theorem dX8_joinAt_25 : decode cX8_joinAt 25 = .ok (.if_icmp .eq 20, 3) := by decide +kernel
theorem dX8_joinAt_28 : decode cX8_joinAt 28 = .ok (.aload_n 0, 1) := by decide +kernel
theorem dX8_joinAt_29 : decode cX8_joinAt 29 = .ok (.iload 4, 2) := by decide +kernel
theorem dX8_joinAt_31 : decode cX8_joinAt 31 = .ok (.aload_n 0, 1) := by decide +kernel
theorem dX8_joinAt_32 : decode cX8_joinAt 32 = .ok (.iconst 3, 1) := by decide +kernel
theorem dX8_joinAt_33 : decode cX8_joinAt 33 = .ok (.iload_n 2, 1) := by decide +kernel
theorem dX8_joinAt_34 : decode cX8_joinAt 34 = .ok (.imul, 1) := by decide +kernel
theorem dX8_joinAt_35 : decode cX8_joinAt 35 = .ok (.iload_n 3, 1) := by decide +kernel
theorem dX8_joinAt_36 : decode cX8_joinAt 36 = .ok (.iadd, 1) := by decide +kernel
theorem dX8_joinAt_37 : decode cX8_joinAt 37 = .ok (.iload_n 1, 1) := by decide +kernel
theorem dX8_joinAt_38 : decode cX8_joinAt 38 = .ok (.iload_n 2, 1) := by decide +kernel
theorem dX8_joinAt_39 : decode cX8_joinAt 39 = .ok (.invokevirtual 235, 3) := by decide +kernel
theorem dX8_joinAt_42 : decode cX8_joinAt 42 = .ok (.invokevirtual 141, 3) := by decide +kernel
theorem dX8_joinAt_45 : decode cX8_joinAt 45 = .ok (.return_, 1) := by decide +kernel
set_option maxRecDepth 20000 in
theorem ggX8_join_X8_ports : GoodIn wsX8_join wsX8_ports := goodIn_r _ [5] (by decide +kernel) (by decide +kernel)
set_option maxRecDepth 20000 in
theorem gX8_join_X8_ports : GoodIn wsX8_join (va_wsS RX8 219 yX8_ports wsX8_ports) := goodIn_app (goodIn_of _ (by decide +kernel)) ggX8_join_X8_ports
set_option maxRecDepth 20000 in
theorem ggX8_join_X8_joinAt : GoodIn wsX8_join wsX8_joinAt := goodIn_r _ [9, 10, 11, 12, 13, 4, 14, 15, 16, 17, 18, 19, 20, 21, 22, 1, 23, 24, 32, 33, 34, 35, 36, 37, 38, 39, 40, 41, 42, 43, 44, 45, 46, 47, 48, 49, 50, 51, 52, 53, 54, 55, 56, 57, 58, 59, 60, 61, 62, 63, 64, 65, 66, 67, 68, 69, 70, 71, 72, 73, 74, 75, 76, 77, 78, 79, 80, 81, 82, 83, 84, 85, 86, 87, 88, 89] (by decide +kernel) (by decide +kernel)
set_option maxRecDepth 20000 in
theorem gX8_join_X8_joinAt : GoodIn wsX8_join (wsV RX8 231 RX8 yX8_joinAt wsX8_joinAt) := goodIn_app (goodIn_of _ (by decide +kernel)) ggX8_join_X8_joinAt
set_option maxRecDepth 20000 in
theorem ggX8_join_X8_free : GoodIn wsX8_join wsX8_free := goodIn_r _ [28, 1, 29, 30, 31, 32, 33, 34, 35, 36, 37, 38, 39, 40, 41, 42, 43, 44, 45, 46, 47, 48, 49, 50, 51, 52, 53, 54, 55, 56, 57, 58, 59, 60, 61, 62, 63, 64, 65, 66, 67, 68, 69, 70, 71, 72, 73, 74, 75, 76, 77, 78, 79, 80, 81, 82, 83, 84, 85, 86, 87, 88, 89] (by decide +kernel) (by decide +kernel)
set_option maxRecDepth 20000 in
theorem gX8_join_X8_free : GoodIn wsX8_join (wsV RX8 222 RX8 yX8_free wsX8_free) := goodIn_app (goodIn_of _ (by decide +kernel)) ggX8_join_X8_free
theorem dX8_join_0 : decode cX8_join 0 = .ok (.aload_n 0, 1) := by decide +kernel
theorem dX8_join_1 : decode cX8_join 1 = .ok (.getfield 98, 3) := by decide +kernel
theorem dX8_join_4 : decode cX8_join 4 = .ok (.iload_n 1, 1) := by decide +kernel
theorem dX8_join_5 : decode cX8_join 5 = .ok (.iaload, 1) := by decide +kernel
theorem dX8_join_6 : decode cX8_join 6 = .ok (.invokestatic 219, 3) := by decide +kernel
theorem dX8_join_9 : decode cX8_join 9 = .ok (.istore_n 3, 1) := by decide +kernel
theorem dX8_join_10 : decode cX8_join 10 = .ok (.iconst 1, 1) := by decide +kernel
theorem dX8_join_11 : decode cX8_join 11 = .ok (.istore 4, 2) := by decide +kernel
theorem dX8_join_13 : decode cX8_join 13 = .ok (.iload 4, 2) := by decide +kernel
theorem dX8_join_15 : decode cX8_join 15 = .ok (.iload_n 3, 1) := by decide +kernel
theorem dX8_join_16 : decode cX8_join 16 = .ok (.if_icmp .ge 25, 3) := by decide +kernel
theorem dX8_join_19 : decode cX8_join 19 = .ok (.aload_n 0, 1) := by decide +kernel
theorem dX8_join_20 : decode cX8_join 20 = .ok (.iload_n 1, 1) := by decide +kernel
theorem dX8_join_21 : decode cX8_join 21 = .ok (.iload_n 2, 1) := by decide +kernel
theorem dX8_join_22 : decode cX8_join 22 = .ok (.iload 4, 2) := by decide +kernel
theorem dX8_join_24 : decode cX8_join 24 = .ok (.invokevirtual 231, 3) := by decide +kernel
theorem dX8_join_27 : decode cX8_join 27 = .ok (.aload_n 0, 1) := by decide +kernel
theorem dX8_join_28 : decode cX8_join 28 = .ok (.iload_n 2, 1) := by decide +kernel
theorem dX8_join_29 : decode cX8_join 29 = .ok (.iload_n 1, 1) := by decide +kernel
theorem dX8_join_30 : decode cX8_join 30 = .ok (.iload 4, 2) := by decide +kernel
theorem dX8_join_32 : decode cX8_join 32 = .ok (.invokevirtual 231, 3) := by decide +kernel
theorem dX8_join_35 : decode cX8_join 35 = .ok (.iinc 4 1, 3) := by decide +kernel
theorem dX8_join_38 : decode cX8_join 38 = .ok (.goto (-25), 3) := by decide +kernel
theorem dX8_join_41 : decode cX8_join 41 = .ok (.aload_n 0, 1) := by decide +kernel
theorem dX8_join_42 : decode cX8_join 42 = .ok (.iload_n 1, 1) := by decide +kernel
theorem dX8_join_43 : decode cX8_join 43 = .ok (.invokevirtual 222, 3) := by decide +kernel
theorem dX8_join_46 : decode cX8_join 46 = .ok (.aload_n 0, 1) := by decide +kernel
theorem dX8_join_47 : decode cX8_join 47 = .ok (.iload_n 2, 1) := by decide +kernel
theorem dX8_join_48 : decode cX8_join 48 = .ok (.invokevirtual 222, 3) := by decide +kernel
theorem dX8_join_51 : decode cX8_join 51 = .ok (.return_, 1) := by decide +kernel
theorem dX8_isWay_0 : decode cX8_isWay 0 = .ok (.iload_n 0, 1) := by decide +kernel
theorem dX8_isWay_1 : decode cX8_isWay 1 = .ok (.iconst 2, 1) := by decide +kernel
theorem dX8_isWay_2 : decode cX8_isWay 2 = .ok (.if_icmp .eq 13, 3) := by decide +kernel
theorem dX8_isWay_5 : decode cX8_isWay 5 = .ok (.iload_n 0, 1) := by decide +kernel
theorem dX8_isWay_6 : decode cX8_isWay 6 = .ok (.iconst 3, 1) := by decide +kernel
theorem dX8_isWay_7 : decode cX8_isWay 7 = .ok (.if_icmp .eq 8, 3) := by decide +kernel
theorem dX8_isWay_10 : decode cX8_isWay 10 = .ok (.iload_n 0, 1) := by decide +kernel
theorem dX8_isWay_11 : decode cX8_isWay 11 = .ok (.iconst 4, 1) := by decide +kernel
theorem dX8_isWay_12 : decode cX8_isWay 12 = .ok (.if_icmp .ne 7, 3) := by decide +kernel
theorem dX8_isWay_15 : decode cX8_isWay 15 = .ok (.iconst 1, 1) := by decide +kernel
theorem dX8_isWay_16 : decode cX8_isWay 16 = .ok (.goto 4, 3) := by decide +kernel
theorem dX8_isWay_19 : decode cX8_isWay 19 = .ok (.iconst 0, 1) := by decide +kernel
theorem dX8_isWay_20 : decode cX8_isWay 20 = .ok (.ireturn, 1) := by decide +kernel
set_option maxRecDepth 20000 in
theorem ggX8_meetingOf_X8_isWay : GoodIn wsX8_meetingOf wsX8_isWay := goodIn_r _ [8] (by decide +kernel) (by decide +kernel)
set_option maxRecDepth 20000 in
theorem gX8_meetingOf_X8_isWay : GoodIn wsX8_meetingOf (va_wsS RX8 238 yX8_isWay wsX8_isWay) := goodIn_app (goodIn_of _ (by decide +kernel)) ggX8_meetingOf_X8_isWay
theorem dX8_meetingOf_0 : decode cX8_meetingOf 0 = .ok (.aload_n 0, 1) := by decide +kernel
theorem dX8_meetingOf_1 : decode cX8_meetingOf 1 = .ok (.getfield 101, 3) := by decide +kernel
theorem dX8_meetingOf_4 : decode cX8_meetingOf 4 = .ok (.iload_n 1, 1) := by decide +kernel
theorem dX8_meetingOf_5 : decode cX8_meetingOf 5 = .ok (.iaload, 1) := by decide +kernel
theorem dX8_meetingOf_6 : decode cX8_meetingOf 6 = .ok (.istore_n 3, 1) := by decide +kernel
theorem dX8_meetingOf_7 : decode cX8_meetingOf 7 = .ok (.aload_n 0, 1) := by decide +kernel
theorem dX8_meetingOf_8 : decode cX8_meetingOf 8 = .ok (.getfield 101, 3) := by decide +kernel
theorem dX8_meetingOf_11 : decode cX8_meetingOf 11 = .ok (.iload_n 2, 1) := by decide +kernel
theorem dX8_meetingOf_12 : decode cX8_meetingOf 12 = .ok (.iaload, 1) := by decide +kernel
theorem dX8_meetingOf_13 : decode cX8_meetingOf 13 = .ok (.istore 4, 2) := by decide +kernel
theorem dX8_meetingOf_15 : decode cX8_meetingOf 15 = .ok (.iload_n 3, 1) := by decide +kernel
theorem dX8_meetingOf_16 : decode cX8_meetingOf 16 = .ok (.iload 4, 2) := by decide +kernel
theorem dX8_meetingOf_18 : decode cX8_meetingOf 18 = .ok (.if_icmp .ne 90, 3) := by decide +kernel
theorem dX8_meetingOf_21 : decode cX8_meetingOf 21 = .ok (.aload_n 0, 1) := by decide +kernel
theorem dX8_meetingOf_22 : decode cX8_meetingOf 22 = .ok (.getfield 98, 3) := by decide +kernel
theorem dX8_meetingOf_25 : decode cX8_meetingOf 25 = .ok (.iload_n 1, 1) := by decide +kernel
theorem dX8_meetingOf_26 : decode cX8_meetingOf 26 = .ok (.iaload, 1) := by decide +kernel
theorem dX8_meetingOf_27 : decode cX8_meetingOf 27 = .ok (.ifCond .ne 13, 3) := by decide +kernel
theorem dX8_meetingOf_30 : decode cX8_meetingOf 30 = .ok (.aload_n 0, 1) := by decide +kernel
theorem dX8_meetingOf_31 : decode cX8_meetingOf 31 = .ok (.getfield 98, 3) := by decide +kernel
theorem dX8_meetingOf_34 : decode cX8_meetingOf 34 = .ok (.iload_n 2, 1) := by decide +kernel
theorem dX8_meetingOf_35 : decode cX8_meetingOf 35 = .ok (.iaload, 1) := by decide +kernel
theorem dX8_meetingOf_36 : decode cX8_meetingOf 36 = .ok (.iconst 1, 1) := by decide +kernel
theorem dX8_meetingOf_37 : decode cX8_meetingOf 37 = .ok (.if_icmp .eq 22, 3) := by decide +kernel
theorem dX8_meetingOf_40 : decode cX8_meetingOf 40 = .ok (.aload_n 0, 1) := by decide +kernel
theorem dX8_meetingOf_41 : decode cX8_meetingOf 41 = .ok (.getfield 98, 3) := by decide +kernel
theorem dX8_meetingOf_44 : decode cX8_meetingOf 44 = .ok (.iload_n 1, 1) := by decide +kernel
theorem dX8_meetingOf_45 : decode cX8_meetingOf 45 = .ok (.iaload, 1) := by decide +kernel
theorem dX8_meetingOf_46 : decode cX8_meetingOf 46 = .ok (.iconst 1, 1) := by decide +kernel
theorem dX8_meetingOf_47 : decode cX8_meetingOf 47 = .ok (.if_icmp .ne 16, 3) := by decide +kernel
theorem dX8_meetingOf_50 : decode cX8_meetingOf 50 = .ok (.aload_n 0, 1) := by decide +kernel
theorem dX8_meetingOf_51 : decode cX8_meetingOf 51 = .ok (.getfield 98, 3) := by decide +kernel
theorem dX8_meetingOf_54 : decode cX8_meetingOf 54 = .ok (.iload_n 2, 1) := by decide +kernel
theorem dX8_meetingOf_55 : decode cX8_meetingOf 55 = .ok (.iaload, 1) := by decide +kernel
theorem dX8_meetingOf_56 : decode cX8_meetingOf 56 = .ok (.ifCond .ne 7, 3) := by decide +kernel
theorem dX8_meetingOf_59 : decode cX8_meetingOf 59 = .ok (.iconst 1, 1) := by decide +kernel
theorem dX8_meetingOf_60 : decode cX8_meetingOf 60 = .ok (.goto 4, 3) := by decide +kernel
theorem dX8_meetingOf_63 : decode cX8_meetingOf 63 = .ok (.iconst 0, 1) := by decide +kernel
theorem dX8_meetingOf_64 : decode cX8_meetingOf 64 = .ok (.istore 5, 2) := by decide +kernel
theorem dX8_meetingOf_66 : decode cX8_meetingOf 66 = .ok (.iload 5, 2) := by decide +kernel
theorem dX8_meetingOf_68 : decode cX8_meetingOf 68 = .ok (.ifCond .eq 7, 3) := by decide +kernel
theorem dX8_meetingOf_71 : decode cX8_meetingOf 71 = .ok (.iconst 0, 1) := by decide +kernel
theorem dX8_meetingOf_72 : decode cX8_meetingOf 72 = .ok (.goto 35, 3) := by decide +kernel
theorem dX8_meetingOf_75 : decode cX8_meetingOf 75 = .ok (.aload_n 0, 1) := by decide +kernel
theorem dX8_meetingOf_76 : decode cX8_meetingOf 76 = .ok (.getfield 98, 3) := by decide +kernel
theorem dX8_meetingOf_79 : decode cX8_meetingOf 79 = .ok (.iload_n 1, 1) := by decide +kernel
theorem dX8_meetingOf_80 : decode cX8_meetingOf 80 = .ok (.iaload, 1) := by decide +kernel
theorem dX8_meetingOf_81 : decode cX8_meetingOf 81 = .ok (.invokestatic 238, 3) := by decide +kernel
theorem dX8_meetingOf_84 : decode cX8_meetingOf 84 = .ok (.ifCond .eq 22, 3) := by decide +kernel
theorem dX8_meetingOf_87 : decode cX8_meetingOf 87 = .ok (.aload_n 0, 1) := by decide +kernel
theorem dX8_meetingOf_88 : decode cX8_meetingOf 88 = .ok (.getfield 98, 3) := by decide +kernel
theorem dX8_meetingOf_91 : decode cX8_meetingOf 91 = .ok (.iload_n 1, 1) := by decide +kernel
theorem dX8_meetingOf_92 : decode cX8_meetingOf 92 = .ok (.iaload, 1) := by decide +kernel
theorem dX8_meetingOf_93 : decode cX8_meetingOf 93 = .ok (.aload_n 0, 1) := by decide +kernel
theorem dX8_meetingOf_94 : decode cX8_meetingOf 94 = .ok (.getfield 98, 3) := by decide +kernel
theorem dX8_meetingOf_97 : decode cX8_meetingOf 97 = .ok (.iload_n 2, 1) := by decide +kernel
theorem dX8_meetingOf_98 : decode cX8_meetingOf 98 = .ok (.iaload, 1) := by decide +kernel
theorem dX8_meetingOf_99 : decode cX8_meetingOf 99 = .ok (.if_icmp .ne 7, 3) := by decide +kernel
theorem dX8_meetingOf_102 : decode cX8_meetingOf 102 = .ok (.iconst 1, 1) := by decide +kernel
theorem dX8_meetingOf_103 : decode cX8_meetingOf 103 = .ok (.goto 4, 3) := by decide +kernel
theorem dX8_meetingOf_106 : decode cX8_meetingOf 106 = .ok (.iconst 3, 1) := by decide +kernel
theorem dX8_meetingOf_107 : decode cX8_meetingOf 107 = .ok (.ireturn, 1) := by decide +kernel
theorem dX8_meetingOf_108 : decode cX8_meetingOf 108 = .ok (.aload_n 0, 1) := by decide +kernel
theorem dX8_meetingOf_109 : decode cX8_meetingOf 109 = .ok (.iload_n 3, 1) := by decide +kernel
theorem dX8_meetingOf_110 : decode cX8_meetingOf 110 = .ok (.iload 4, 2) := by decide +kernel
theorem dX8_meetingOf_112 : decode cX8_meetingOf 112 = .ok (.if_icmp .ge 7, 3) := by decide +kernel
theorem dX8_meetingOf_115 : decode cX8_meetingOf 115 = .ok (.iload_n 1, 1) := by decide +kernel
theorem dX8_meetingOf_116 : decode cX8_meetingOf 116 = .ok (.goto 4, 3) := by decide +kernel
theorem dX8_meetingOf_119 : decode cX8_meetingOf 119 = .ok (.iload_n 2, 1) := by decide +kernel
theorem dX8_meetingOf_120 : decode cX8_meetingOf 120 = .ok (.putfield 241, 3) := by decide +kernel
theorem dX8_meetingOf_123 : decode cX8_meetingOf 123 = .ok (.aload_n 0, 1) := by decide +kernel
theorem dX8_meetingOf_124 : decode cX8_meetingOf 124 = .ok (.iload_n 3, 1) := by decide +kernel
theorem dX8_meetingOf_125 : decode cX8_meetingOf 125 = .ok (.iload 4, 2) := by decide +kernel
theorem dX8_meetingOf_127 : decode cX8_meetingOf 127 = .ok (.if_icmp .ge 7, 3) := by decide +kernel
theorem dX8_meetingOf_130 : decode cX8_meetingOf 130 = .ok (.iload_n 2, 1) := by decide +kernel
theorem dX8_meetingOf_131 : decode cX8_meetingOf 131 = .ok (.goto 4, 3) := by decide +kernel
theorem dX8_meetingOf_134 : decode cX8_meetingOf 134 = .ok (.iload_n 1, 1) := by decide +kernel
theorem dX8_meetingOf_135 : decode cX8_meetingOf 135 = .ok (.putfield 244, 3) := by decide +kernel
theorem dX8_meetingOf_138 : decode cX8_meetingOf 138 = .ok (.aload_n 0, 1) := by decide +kernel
theorem dX8_meetingOf_139 : decode cX8_meetingOf 139 = .ok (.getfield 98, 3) := by decide +kernel
theorem dX8_meetingOf_142 : decode cX8_meetingOf 142 = .ok (.aload_n 0, 1) := by decide +kernel
theorem dX8_meetingOf_143 : decode cX8_meetingOf 143 = .ok (.getfield 241, 3) := by decide +kernel
theorem dX8_meetingOf_146 : decode cX8_meetingOf 146 = .ok (.iaload, 1) := by decide +kernel
theorem dX8_meetingOf_147 : decode cX8_meetingOf 147 = .ok (.invokestatic 238, 3) := by decide +kernel
theorem dX8_meetingOf_150 : decode cX8_meetingOf 150 = .ok (.ifCond .eq 7, 3) := by decide +kernel
theorem dX8_meetingOf_153 : decode cX8_meetingOf 153 = .ok (.iconst 2, 1) := by decide +kernel
theorem dX8_meetingOf_154 : decode cX8_meetingOf 154 = .ok (.goto 4, 3) := by decide +kernel
theorem dX8_meetingOf_157 : decode cX8_meetingOf 157 = .ok (.iconst 3, 1) := by decide +kernel
theorem dX8_meetingOf_158 : decode cX8_meetingOf 158 = .ok (.ireturn, 1) := by decide +kernel
set_option maxRecDepth 20000 in
theorem ggX8_isTight_X8_ports : GoodIn wsX8_isTight wsX8_ports := goodIn_r _ [9] (by decide +kernel) (by decide +kernel)
set_option maxRecDepth 20000 in
theorem gX8_isTight_X8_ports : GoodIn wsX8_isTight (va_wsS RX8 219 yX8_ports wsX8_ports) := goodIn_app (goodIn_of _ (by decide +kernel)) ggX8_isTight_X8_ports
theorem dX8_isTight_0 : decode cX8_isTight 0 = .ok (.aload_n 0, 1) := by decide +kernel
theorem dX8_isTight_1 : decode cX8_isTight 1 = .ok (.getfield 98, 3) := by decide +kernel
theorem dX8_isTight_4 : decode cX8_isTight 4 = .ok (.aload_n 0, 1) := by decide +kernel
theorem dX8_isTight_5 : decode cX8_isTight 5 = .ok (.getfield 244, 3) := by decide +kernel
theorem dX8_isTight_8 : decode cX8_isTight 8 = .ok (.iaload, 1) := by decide +kernel
theorem dX8_isTight_9 : decode cX8_isTight 9 = .ok (.invokestatic 219, 3) := by decide +kernel
theorem dX8_isTight_12 : decode cX8_isTight 12 = .ok (.iconst 1, 1) := by decide +kernel
theorem dX8_isTight_13 : decode cX8_isTight 13 = .ok (.isub, 1) := by decide +kernel
theorem dX8_isTight_14 : decode cX8_isTight 14 = .ok (.aload_n 0, 1) := by decide +kernel
theorem dX8_isTight_15 : decode cX8_isTight 15 = .ok (.getfield 98, 3) := by decide +kernel
theorem dX8_isTight_18 : decode cX8_isTight 18 = .ok (.aload_n 0, 1) := by decide +kernel
theorem dX8_isTight_19 : decode cX8_isTight 19 = .ok (.getfield 241, 3) := by decide +kernel
theorem dX8_isTight_22 : decode cX8_isTight 22 = .ok (.iaload, 1) := by decide +kernel
theorem dX8_isTight_23 : decode cX8_isTight 23 = .ok (.iconst 2, 1) := by decide +kernel
theorem dX8_isTight_24 : decode cX8_isTight 24 = .ok (.if_icmp .ne 7, 3) := by decide +kernel
theorem dX8_isTight_27 : decode cX8_isTight 27 = .ok (.iconst 2, 1) := by decide +kernel
theorem dX8_isTight_28 : decode cX8_isTight 28 = .ok (.goto 4, 3) := by decide +kernel
theorem dX8_isTight_31 : decode cX8_isTight 31 = .ok (.iconst 1, 1) := by decide +kernel
theorem dX8_isTight_32 : decode cX8_isTight 32 = .ok (.iadd, 1) := by decide +kernel
theorem dX8_isTight_33 : decode cX8_isTight 33 = .ok (.istore_n 1, 1) := by decide +kernel
theorem dX8_isTight_34 : decode cX8_isTight 34 = .ok (.aload_n 0, 1) := by decide +kernel
theorem dX8_isTight_35 : decode cX8_isTight 35 = .ok (.getfield 104, 3) := by decide +kernel
theorem dX8_isTight_38 : decode cX8_isTight 38 = .ok (.iconst 2, 1) := by decide +kernel
theorem dX8_isTight_39 : decode cX8_isTight 39 = .ok (.isub, 1) := by decide +kernel
theorem dX8_isTight_40 : decode cX8_isTight 40 = .ok (.iload_n 1, 1) := by decide +kernel
theorem dX8_isTight_41 : decode cX8_isTight 41 = .ok (.iadd, 1) := by decide +kernel
theorem dX8_isTight_42 : decode cX8_isTight 42 = .ok (.sipush 3000, 3) := by decide +kernel
theorem dX8_isTight_45 : decode cX8_isTight 45 = .ok (.if_icmp .gt 30, 3) := by decide +kernel
theorem dX8_isTight_48 : decode cX8_isTight 48 = .ok (.aload_n 0, 1) := by decide +kernel
theorem dX8_isTight_49 : decode cX8_isTight 49 = .ok (.getfield 98, 3) := by decide +kernel
theorem dX8_isTight_52 : decode cX8_isTight 52 = .ok (.aload_n 0, 1) := by decide +kernel
theorem dX8_isTight_53 : decode cX8_isTight 53 = .ok (.getfield 241, 3) := by decide +kernel
theorem dX8_isTight_56 : decode cX8_isTight 56 = .ok (.iaload, 1) := by decide +kernel
theorem dX8_isTight_57 : decode cX8_isTight 57 = .ok (.iconst 4, 1) := by decide +kernel
theorem dX8_isTight_58 : decode cX8_isTight 58 = .ok (.if_icmp .ne 21, 3) := by decide +kernel
theorem dX8_isTight_61 : decode cX8_isTight 61 = .ok (.aload_n 0, 1) := by decide +kernel
theorem dX8_isTight_62 : decode cX8_isTight 62 = .ok (.getfield 101, 3) := by decide +kernel
theorem dX8_isTight_65 : decode cX8_isTight 65 = .ok (.aload_n 0, 1) := by decide +kernel
theorem dX8_isTight_66 : decode cX8_isTight 66 = .ok (.getfield 244, 3) := by decide +kernel
theorem dX8_isTight_69 : decode cX8_isTight 69 = .ok (.iaload, 1) := by decide +kernel
theorem dX8_isTight_70 : decode cX8_isTight 70 = .ok (.bipush 63, 2) := by decide +kernel
theorem dX8_isTight_72 : decode cX8_isTight 72 = .ok (.if_icmp .ne 7, 3) := by decide +kernel
theorem dX8_isTight_75 : decode cX8_isTight 75 = .ok (.iconst 1, 1) := by decide +kernel
theorem dX8_isTight_76 : decode cX8_isTight 76 = .ok (.goto 4, 3) := by decide +kernel
theorem dX8_isTight_79 : decode cX8_isTight 79 = .ok (.iconst 0, 1) := by decide +kernel
theorem dX8_isTight_80 : decode cX8_isTight 80 = .ok (.ireturn, 1) := by decide +kernel
theorem dX8_stands_0 : decode cX8_stands 0 = .ok (.iload_n 1, 1) := by decide +kernel
theorem dX8_stands_1 : decode cX8_stands 1 = .ok (.iconst 3, 1) := by decide +kernel
theorem dX8_stands_2 : decode cX8_stands 2 = .ok (.idiv, 1) := by decide +kernel
theorem dX8_stands_3 : decode cX8_stands 3 = .ok (.aload_n 0, 1) := by decide +kernel
theorem dX8_stands_4 : decode cX8_stands 4 = .ok (.getfield 241, 3) := by decide +kernel
theorem dX8_stands_7 : decode cX8_stands 7 = .ok (.if_icmp .ne 14, 3) := by decide +kernel
theorem dX8_stands_10 : decode cX8_stands 10 = .ok (.aload_n 0, 1) := by decide +kernel
theorem dX8_stands_11 : decode cX8_stands 11 = .ok (.getfield 170, 3) := by decide +kernel
theorem dX8_stands_14 : decode cX8_stands 14 = .ok (.iload_n 1, 1) := by decide +kernel
theorem dX8_stands_15 : decode cX8_stands 15 = .ok (.iconst 3, 1) := by decide +kernel
theorem dX8_stands_16 : decode cX8_stands 16 = .ok (.irem, 1) := by decide +kernel
theorem dX8_stands_17 : decode cX8_stands 17 = .ok (.iaload, 1) := by decide +kernel
theorem dX8_stands_18 : decode cX8_stands 18 = .ok (.goto 27, 3) := by decide +kernel
theorem dX8_stands_21 : decode cX8_stands 21 = .ok (.iload_n 1, 1) := by decide +kernel
theorem dX8_stands_22 : decode cX8_stands 22 = .ok (.iconst 3, 1) := by decide +kernel
theorem dX8_stands_23 : decode cX8_stands 23 = .ok (.idiv, 1) := by decide +kernel
theorem dX8_stands_24 : decode cX8_stands 24 = .ok (.aload_n 0, 1) := by decide +kernel
theorem dX8_stands_25 : decode cX8_stands 25 = .ok (.getfield 244, 3) := by decide +kernel
theorem dX8_stands_28 : decode cX8_stands 28 = .ok (.if_icmp .ne 16, 3) := by decide +kernel
theorem dX8_stands_31 : decode cX8_stands 31 = .ok (.aload_n 0, 1) := by decide +kernel
theorem dX8_stands_32 : decode cX8_stands 32 = .ok (.getfield 170, 3) := by decide +kernel
theorem dX8_stands_35 : decode cX8_stands 35 = .ok (.iconst 3, 1) := by decide +kernel
theorem dX8_stands_36 : decode cX8_stands 36 = .ok (.iload_n 1, 1) := by decide +kernel
theorem dX8_stands_37 : decode cX8_stands 37 = .ok (.iconst 3, 1) := by decide +kernel
theorem dX8_stands_38 : decode cX8_stands 38 = .ok (.irem, 1) := by decide +kernel
theorem dX8_stands_39 : decode cX8_stands 39 = .ok (.iadd, 1) := by decide +kernel
theorem dX8_stands_40 : decode cX8_stands 40 = .ok (.iaload, 1) := by decide +kernel
theorem dX8_stands_41 : decode cX8_stands 41 = .ok (.goto 4, 3) := by decide +kernel
theorem dX8_stands_44 : decode cX8_stands 44 = .ok (.iload_n 1, 1) := by decide +kernel
theorem dX8_stands_45 : decode cX8_stands 45 = .ok (.ireturn, 1) := by decide +kernel
set_option maxRecDepth 20000 in
theorem ggX8_pass_X8_ports : GoodIn wsX8_pass wsX8_ports := goodIn_r _ [10] (by decide +kernel) (by decide +kernel)
set_option maxRecDepth 20000 in
theorem gX8_pass_X8_ports : GoodIn wsX8_pass (va_wsS RX8 219 yX8_ports wsX8_ports) := goodIn_app (goodIn_of _ (by decide +kernel)) ggX8_pass_X8_ports
set_option maxRecDepth 20000 in
theorem ggX8_pass_X8_node : GoodIn wsX8_pass wsX8_node := goodIn_r _ [14, 15, 16, 3, 4, 17, 36, 37, 38, 39, 40, 41, 42, 43, 44, 45, 46, 47, 48, 49, 50, 51, 52, 53, 54, 55, 56, 57, 58, 59, 60, 61, 62, 63, 64, 65, 66, 67, 68, 69, 70, 71, 72, 73, 74, 75, 76, 77, 78, 79, 80, 81, 82, 83, 84, 85, 86, 87, 88, 89, 90, 91, 92, 93] (by decide +kernel) (by decide +kernel)
set_option maxRecDepth 20000 in
theorem gX8_pass_X8_node : GoodIn wsX8_pass (wsV RX8 135 RX8 yX8_node wsX8_node) := goodIn_app (goodIn_of _ (by decide +kernel)) ggX8_pass_X8_node
set_option maxRecDepth 20000 in
theorem ggX8_pass_X8_wire : GoodIn wsX8_pass wsX8_wire := goodIn_r _ [21, 6, 22, 23, 24, 9, 25, 3, 26, 27, 36, 37, 38, 39, 40, 41, 42, 43, 44, 45, 46, 47, 48, 49, 50, 51, 52, 53, 54, 55, 56, 57, 58, 59, 60, 61, 62, 63, 64, 65, 66, 67, 68, 69, 70, 71, 72, 73, 74, 75, 76, 77, 78, 79, 80, 81, 82, 83, 84, 85, 86, 87, 88, 89, 90, 91, 92, 93] (by decide +kernel) (by decide +kernel)
set_option maxRecDepth 20000 in
theorem gX8_pass_X8_wire : GoodIn wsX8_pass (wsV RX8 141 RX8 yX8_wire wsX8_wire) := goodIn_app (goodIn_of _ (by decide +kernel)) ggX8_pass_X8_wire
set_option maxRecDepth 20000 in
theorem ggX8_pass_X8_stands : GoodIn wsX8_pass wsX8_stands := goodIn_r _ [31, 1, 5, 2, 36, 37, 38, 39, 40, 41, 42, 43, 44, 45, 46, 47, 48, 49, 50, 51, 52, 53, 54, 55, 56, 57, 58, 59, 60, 61, 62, 63, 64, 65, 66, 67, 68, 69, 70, 71, 72, 73, 74, 75, 76, 77, 78, 79, 80, 81, 82, 83, 84, 85, 86, 87, 88, 89, 90, 91, 92, 93] (by decide +kernel) (by decide +kernel)
set_option maxRecDepth 20000 in
theorem gX8_pass_X8_stands : GoodIn wsX8_pass (wsV RX8 247 RX8 yX8_stands wsX8_stands) := goodIn_app (goodIn_of _ (by decide +kernel)) ggX8_pass_X8_stands
set_option maxRecDepth 20000 in
theorem ggX8_pass_X8_free : GoodIn wsX8_pass wsX8_free := goodIn_r _ [35, 3, 16, 15, 17, 36, 37, 38, 39, 40, 41, 42, 43, 44, 45, 46, 47, 48, 49, 50, 51, 52, 53, 54, 55, 56, 57, 58, 59, 60, 61, 62, 63, 64, 65, 66, 67, 68, 69, 70, 71, 72, 73, 74, 75, 76, 77, 78, 79, 80, 81, 82, 83, 84, 85, 86, 87, 88, 89, 90, 91, 92, 93] (by decide +kernel) (by decide +kernel)
set_option maxRecDepth 20000 in
theorem gX8_pass_X8_free : GoodIn wsX8_pass (wsV RX8 222 RX8 yX8_free wsX8_free) := goodIn_app (goodIn_of _ (by decide +kernel)) ggX8_pass_X8_free
theorem dX8_pass_0 : decode cX8_pass 0 = .ok (.aload_n 0, 1) := by decide +kernel
theorem dX8_pass_1 : decode cX8_pass 1 = .ok (.getfield 241, 3) := by decide +kernel
theorem dX8_pass_4 : decode cX8_pass 4 = .ok (.istore_n 1, 1) := by decide +kernel
theorem dX8_pass_5 : decode cX8_pass 5 = .ok (.aload_n 0, 1) := by decide +kernel
theorem dX8_pass_6 : decode cX8_pass 6 = .ok (.getfield 244, 3) := by decide +kernel
theorem dX8_pass_9 : decode cX8_pass 9 = .ok (.istore_n 2, 1) := by decide +kernel
theorem dX8_pass_10 : decode cX8_pass 10 = .ok (.aload_n 0, 1) := by decide +kernel
theorem dX8_pass_11 : decode cX8_pass 11 = .ok (.getfield 98, 3) := by decide +kernel
theorem dX8_pass_14 : decode cX8_pass 14 = .ok (.iload_n 1, 1) := by decide +kernel
theorem dX8_pass_15 : decode cX8_pass 15 = .ok (.iaload, 1) := by decide +kernel
theorem dX8_pass_16 : decode cX8_pass 16 = .ok (.istore_n 3, 1) := by decide +kernel
theorem dX8_pass_17 : decode cX8_pass 17 = .ok (.aload_n 0, 1) := by decide +kernel
theorem dX8_pass_18 : decode cX8_pass 18 = .ok (.getfield 98, 3) := by decide +kernel
theorem dX8_pass_21 : decode cX8_pass 21 = .ok (.iload_n 2, 1) := by decide +kernel
theorem dX8_pass_22 : decode cX8_pass 22 = .ok (.iaload, 1) := by decide +kernel
theorem dX8_pass_23 : decode cX8_pass 23 = .ok (.invokestatic 219, 3) := by decide +kernel
theorem dX8_pass_26 : decode cX8_pass 26 = .ok (.istore 4, 2) := by decide +kernel
theorem dX8_pass_28 : decode cX8_pass 28 = .ok (.aload_n 0, 1) := by decide +kernel
theorem dX8_pass_29 : decode cX8_pass 29 = .ok (.getfield 101, 3) := by decide +kernel
theorem dX8_pass_32 : decode cX8_pass 32 = .ok (.iload_n 2, 1) := by decide +kernel
theorem dX8_pass_33 : decode cX8_pass 33 = .ok (.iaload, 1) := by decide +kernel
theorem dX8_pass_34 : decode cX8_pass 34 = .ok (.iload_n 3, 1) := by decide +kernel
theorem dX8_pass_35 : decode cX8_pass 35 = .ok (.iconst 3, 1) := by decide +kernel
theorem dX8_pass_36 : decode cX8_pass 36 = .ok (.if_icmp .ne 7, 3) := by decide +kernel
theorem dX8_pass_39 : decode cX8_pass 39 = .ok (.iconst (-1), 1) := by decide +kernel
theorem dX8_pass_40 : decode cX8_pass 40 = .ok (.goto 13, 3) := by decide +kernel
theorem dX8_pass_43 : decode cX8_pass 43 = .ok (.iload_n 3, 1) := by decide +kernel
theorem dX8_pass_44 : decode cX8_pass 44 = .ok (.iconst 4, 1) := by decide +kernel
theorem dX8_pass_45 : decode cX8_pass 45 = .ok (.if_icmp .ne 7, 3) := by decide +kernel
theorem dX8_pass_48 : decode cX8_pass 48 = .ok (.iconst 1, 1) := by decide +kernel
theorem dX8_pass_49 : decode cX8_pass 49 = .ok (.goto 4, 3) := by decide +kernel
theorem dX8_pass_52 : decode cX8_pass 52 = .ok (.iconst 0, 1) := by decide +kernel
theorem dX8_pass_53 : decode cX8_pass 53 = .ok (.iadd, 1) := by decide +kernel
theorem dX8_pass_54 : decode cX8_pass 54 = .ok (.istore 5, 2) := by decide +kernel
theorem dX8_pass_56 : decode cX8_pass 56 = .ok (.aload_n 0, 1) := by decide +kernel
theorem dX8_pass_57 : decode cX8_pass 57 = .ok (.aload_n 0, 1) := by decide +kernel
theorem dX8_pass_58 : decode cX8_pass 58 = .ok (.getfield 98, 3) := by decide +kernel
theorem dX8_pass_61 : decode cX8_pass 61 = .ok (.iload_n 2, 1) := by decide +kernel
theorem dX8_pass_62 : decode cX8_pass 62 = .ok (.iaload, 1) := by decide +kernel
theorem dX8_pass_63 : decode cX8_pass 63 = .ok (.iload 5, 2) := by decide +kernel
theorem dX8_pass_65 : decode cX8_pass 65 = .ok (.invokevirtual 135, 3) := by decide +kernel
theorem dX8_pass_68 : decode cX8_pass 68 = .ok (.istore 6, 2) := by decide +kernel
theorem dX8_pass_70 : decode cX8_pass 70 = .ok (.iload_n 3, 1) := by decide +kernel
theorem dX8_pass_71 : decode cX8_pass 71 = .ok (.iconst 2, 1) := by decide +kernel
theorem dX8_pass_72 : decode cX8_pass 72 = .ok (.if_icmp .ne 18, 3) := by decide +kernel
theorem dX8_pass_75 : decode cX8_pass 75 = .ok (.aload_n 0, 1) := by decide +kernel
theorem dX8_pass_76 : decode cX8_pass 76 = .ok (.aload_n 0, 1) := by decide +kernel
theorem dX8_pass_77 : decode cX8_pass 77 = .ok (.getfield 98, 3) := by decide +kernel
theorem dX8_pass_80 : decode cX8_pass 80 = .ok (.iload_n 2, 1) := by decide +kernel
theorem dX8_pass_81 : decode cX8_pass 81 = .ok (.iaload, 1) := by decide +kernel
theorem dX8_pass_82 : decode cX8_pass 82 = .ok (.iload 5, 2) := by decide +kernel
theorem dX8_pass_84 : decode cX8_pass 84 = .ok (.invokevirtual 135, 3) := by decide +kernel
theorem dX8_pass_87 : decode cX8_pass 87 = .ok (.goto 4, 3) := by decide +kernel
theorem dX8_pass_90 : decode cX8_pass 90 = .ok (.iconst (-1), 1) := by decide +kernel
theorem dX8_pass_91 : decode cX8_pass 91 = .ok (.istore 7, 2) := by decide +kernel
theorem dX8_pass_93 : decode cX8_pass 93 = .ok (.aload_n 0, 1) := by decide +kernel
theorem dX8_pass_94 : decode cX8_pass 94 = .ok (.getfield 170, 3) := by decide +kernel
theorem dX8_pass_97 : decode cX8_pass 97 = .ok (.iconst 1, 1) := by decide +kernel
theorem dX8_pass_98 : decode cX8_pass 98 = .ok (.iconst 3, 1) := by decide +kernel
theorem dX8_pass_99 : decode cX8_pass 99 = .ok (.iload 6, 2) := by decide +kernel
theorem dX8_pass_101 : decode cX8_pass 101 = .ok (.imul, 1) := by decide +kernel
theorem dX8_pass_102 : decode cX8_pass 102 = .ok (.iastore, 1) := by decide +kernel
theorem dX8_pass_103 : decode cX8_pass 103 = .ok (.aload_n 0, 1) := by decide +kernel
theorem dX8_pass_104 : decode cX8_pass 104 = .ok (.getfield 170, 3) := by decide +kernel
theorem dX8_pass_107 : decode cX8_pass 107 = .ok (.iconst 2, 1) := by decide +kernel
theorem dX8_pass_108 : decode cX8_pass 108 = .ok (.iconst 3, 1) := by decide +kernel
theorem dX8_pass_109 : decode cX8_pass 109 = .ok (.iload 7, 2) := by decide +kernel
theorem dX8_pass_111 : decode cX8_pass 111 = .ok (.imul, 1) := by decide +kernel
theorem dX8_pass_112 : decode cX8_pass 112 = .ok (.iastore, 1) := by decide +kernel
theorem dX8_pass_113 : decode cX8_pass 113 = .ok (.iconst 1, 1) := by decide +kernel
theorem dX8_pass_114 : decode cX8_pass 114 = .ok (.istore 8, 2) := by decide +kernel
theorem dX8_pass_116 : decode cX8_pass 116 = .ok (.iload 8, 2) := by decide +kernel
theorem dX8_pass_118 : decode cX8_pass 118 = .ok (.iload 4, 2) := by decide +kernel
theorem dX8_pass_120 : decode cX8_pass 120 = .ok (.if_icmp .ge 74, 3) := by decide +kernel
theorem dX8_pass_123 : decode cX8_pass 123 = .ok (.aload_n 0, 1) := by decide +kernel
theorem dX8_pass_124 : decode cX8_pass 124 = .ok (.iload_n 3, 1) := by decide +kernel
theorem dX8_pass_125 : decode cX8_pass 125 = .ok (.aload_n 0, 1) := by decide +kernel
theorem dX8_pass_126 : decode cX8_pass 126 = .ok (.getfield 101, 3) := by decide +kernel
theorem dX8_pass_129 : decode cX8_pass 129 = .ok (.iload_n 1, 1) := by decide +kernel
theorem dX8_pass_130 : decode cX8_pass 130 = .ok (.iaload, 1) := by decide +kernel
theorem dX8_pass_131 : decode cX8_pass 131 = .ok (.invokevirtual 135, 3) := by decide +kernel
theorem dX8_pass_134 : decode cX8_pass 134 = .ok (.istore 9, 2) := by decide +kernel
theorem dX8_pass_136 : decode cX8_pass 136 = .ok (.aload_n 0, 1) := by decide +kernel
theorem dX8_pass_137 : decode cX8_pass 137 = .ok (.getfield 170, 3) := by decide +kernel
theorem dX8_pass_140 : decode cX8_pass 140 = .ok (.iconst 3, 1) := by decide +kernel
theorem dX8_pass_141 : decode cX8_pass 141 = .ok (.iload 8, 2) := by decide +kernel
theorem dX8_pass_143 : decode cX8_pass 143 = .ok (.iadd, 1) := by decide +kernel
theorem dX8_pass_144 : decode cX8_pass 144 = .ok (.iconst 3, 1) := by decide +kernel
theorem dX8_pass_145 : decode cX8_pass 145 = .ok (.iload 9, 2) := by decide +kernel
theorem dX8_pass_147 : decode cX8_pass 147 = .ok (.imul, 1) := by decide +kernel
theorem dX8_pass_148 : decode cX8_pass 148 = .ok (.iastore, 1) := by decide +kernel
theorem dX8_pass_149 : decode cX8_pass 149 = .ok (.aload_n 0, 1) := by decide +kernel
theorem dX8_pass_150 : decode cX8_pass 150 = .ok (.iconst 3, 1) := by decide +kernel
theorem dX8_pass_151 : decode cX8_pass 151 = .ok (.iload 6, 2) := by decide +kernel
theorem dX8_pass_153 : decode cX8_pass 153 = .ok (.imul, 1) := by decide +kernel
theorem dX8_pass_154 : decode cX8_pass 154 = .ok (.iload 8, 2) := by decide +kernel
theorem dX8_pass_156 : decode cX8_pass 156 = .ok (.iadd, 1) := by decide +kernel
theorem dX8_pass_157 : decode cX8_pass 157 = .ok (.iconst 3, 1) := by decide +kernel
theorem dX8_pass_158 : decode cX8_pass 158 = .ok (.iload 9, 2) := by decide +kernel
theorem dX8_pass_160 : decode cX8_pass 160 = .ok (.imul, 1) := by decide +kernel
theorem dX8_pass_161 : decode cX8_pass 161 = .ok (.iconst 1, 1) := by decide +kernel
theorem dX8_pass_162 : decode cX8_pass 162 = .ok (.iadd, 1) := by decide +kernel
theorem dX8_pass_163 : decode cX8_pass 163 = .ok (.invokevirtual 141, 3) := by decide +kernel
theorem dX8_pass_166 : decode cX8_pass 166 = .ok (.iload_n 3, 1) := by decide +kernel
theorem dX8_pass_167 : decode cX8_pass 167 = .ok (.iconst 2, 1) := by decide +kernel
theorem dX8_pass_168 : decode cX8_pass 168 = .ok (.if_icmp .ne 20, 3) := by decide +kernel
theorem dX8_pass_171 : decode cX8_pass 171 = .ok (.aload_n 0, 1) := by decide +kernel
theorem dX8_pass_172 : decode cX8_pass 172 = .ok (.iconst 3, 1) := by decide +kernel
theorem dX8_pass_173 : decode cX8_pass 173 = .ok (.iload 7, 2) := by decide +kernel
theorem dX8_pass_175 : decode cX8_pass 175 = .ok (.imul, 1) := by decide +kernel
theorem dX8_pass_176 : decode cX8_pass 176 = .ok (.iload 8, 2) := by decide +kernel
theorem dX8_pass_178 : decode cX8_pass 178 = .ok (.iadd, 1) := by decide +kernel
theorem dX8_pass_179 : decode cX8_pass 179 = .ok (.iconst 3, 1) := by decide +kernel
theorem dX8_pass_180 : decode cX8_pass 180 = .ok (.iload 9, 2) := by decide +kernel
theorem dX8_pass_182 : decode cX8_pass 182 = .ok (.imul, 1) := by decide +kernel
theorem dX8_pass_183 : decode cX8_pass 183 = .ok (.iconst 2, 1) := by decide +kernel
theorem dX8_pass_184 : decode cX8_pass 184 = .ok (.iadd, 1) := by decide +kernel
theorem dX8_pass_185 : decode cX8_pass 185 = .ok (.invokevirtual 141, 3) := by decide +kernel
theorem dX8_pass_188 : decode cX8_pass 188 = .ok (.iinc 8 1, 3) := by decide +kernel
theorem dX8_pass_191 : decode cX8_pass 191 = .ok (.goto (-75), 3) := by decide +kernel
theorem dX8_pass_194 : decode cX8_pass 194 = .ok (.iconst 1, 1) := by decide +kernel
theorem dX8_pass_195 : decode cX8_pass 195 = .ok (.istore 8, 2) := by decide +kernel
theorem dX8_pass_197 : decode cX8_pass 197 = .ok (.iload 8, 2) := by decide +kernel
theorem dX8_pass_199 : decode cX8_pass 199 = .ok (.iload_n 3, 1) := by decide +kernel
theorem dX8_pass_200 : decode cX8_pass 200 = .ok (.invokestatic 219, 3) := by decide +kernel
theorem dX8_pass_203 : decode cX8_pass 203 = .ok (.if_icmp .ge 35, 3) := by decide +kernel
theorem dX8_pass_206 : decode cX8_pass 206 = .ok (.aload_n 0, 1) := by decide +kernel
theorem dX8_pass_207 : decode cX8_pass 207 = .ok (.aload_n 0, 1) := by decide +kernel
theorem dX8_pass_208 : decode cX8_pass 208 = .ok (.getfield 170, 3) := by decide +kernel
theorem dX8_pass_211 : decode cX8_pass 211 = .ok (.iload 8, 2) := by decide +kernel
theorem dX8_pass_213 : decode cX8_pass 213 = .ok (.iaload, 1) := by decide +kernel
theorem dX8_pass_214 : decode cX8_pass 214 = .ok (.aload_n 0, 1) := by decide +kernel
theorem dX8_pass_215 : decode cX8_pass 215 = .ok (.aload_n 0, 1) := by decide +kernel
theorem dX8_pass_216 : decode cX8_pass 216 = .ok (.getfield 113, 3) := by decide +kernel
theorem dX8_pass_219 : decode cX8_pass 219 = .ok (.iconst 3, 1) := by decide +kernel
theorem dX8_pass_220 : decode cX8_pass 220 = .ok (.iload_n 1, 1) := by decide +kernel
theorem dX8_pass_221 : decode cX8_pass 221 = .ok (.imul, 1) := by decide +kernel
theorem dX8_pass_222 : decode cX8_pass 222 = .ok (.iload 8, 2) := by decide +kernel
theorem dX8_pass_224 : decode cX8_pass 224 = .ok (.iadd, 1) := by decide +kernel
theorem dX8_pass_225 : decode cX8_pass 225 = .ok (.iaload, 1) := by decide +kernel
theorem dX8_pass_226 : decode cX8_pass 226 = .ok (.invokevirtual 247, 3) := by decide +kernel
theorem dX8_pass_229 : decode cX8_pass 229 = .ok (.invokevirtual 141, 3) := by decide +kernel
theorem dX8_pass_232 : decode cX8_pass 232 = .ok (.iinc 8 1, 3) := by decide +kernel
theorem dX8_pass_235 : decode cX8_pass 235 = .ok (.goto (-38), 3) := by decide +kernel
theorem dX8_pass_238 : decode cX8_pass 238 = .ok (.iconst 1, 1) := by decide +kernel
theorem dX8_pass_239 : decode cX8_pass 239 = .ok (.istore 8, 2) := by decide +kernel
theorem dX8_pass_241 : decode cX8_pass 241 = .ok (.iload 8, 2) := by decide +kernel
theorem dX8_pass_243 : decode cX8_pass 243 = .ok (.iload 4, 2) := by decide +kernel
theorem dX8_pass_245 : decode cX8_pass 245 = .ok (.if_icmp .ge 37, 3) := by decide +kernel
theorem dX8_pass_248 : decode cX8_pass 248 = .ok (.aload_n 0, 1) := by decide +kernel
theorem dX8_pass_249 : decode cX8_pass 249 = .ok (.aload_n 0, 1) := by decide +kernel
theorem dX8_pass_250 : decode cX8_pass 250 = .ok (.getfield 170, 3) := by decide +kernel
theorem dX8_pass_253 : decode cX8_pass 253 = .ok (.iconst 3, 1) := by decide +kernel
theorem dX8_pass_254 : decode cX8_pass 254 = .ok (.iload 8, 2) := by decide +kernel
theorem dX8_pass_256 : decode cX8_pass 256 = .ok (.iadd, 1) := by decide +kernel
theorem dX8_pass_257 : decode cX8_pass 257 = .ok (.iaload, 1) := by decide +kernel
theorem dX8_pass_258 : decode cX8_pass 258 = .ok (.aload_n 0, 1) := by decide +kernel
theorem dX8_pass_259 : decode cX8_pass 259 = .ok (.aload_n 0, 1) := by decide +kernel
theorem dX8_pass_260 : decode cX8_pass 260 = .ok (.getfield 113, 3) := by decide +kernel
theorem dX8_pass_263 : decode cX8_pass 263 = .ok (.iconst 3, 1) := by decide +kernel
theorem dX8_pass_264 : decode cX8_pass 264 = .ok (.iload_n 2, 1) := by decide +kernel
theorem dX8_pass_265 : decode cX8_pass 265 = .ok (.imul, 1) := by decide +kernel
theorem dX8_pass_266 : decode cX8_pass 266 = .ok (.iload 8, 2) := by decide +kernel
theorem dX8_pass_268 : decode cX8_pass 268 = .ok (.iadd, 1) := by decide +kernel
theorem dX8_pass_269 : decode cX8_pass 269 = .ok (.iaload, 1) := by decide +kernel
theorem dX8_pass_270 : decode cX8_pass 270 = .ok (.invokevirtual 247, 3) := by decide +kernel
theorem dX8_pass_273 : decode cX8_pass 273 = .ok (.invokevirtual 141, 3) := by decide +kernel
theorem dX8_pass_276 : decode cX8_pass 276 = .ok (.iinc 8 1, 3) := by decide +kernel
theorem dX8_pass_279 : decode cX8_pass 279 = .ok (.goto (-38), 3) := by decide +kernel
theorem dX8_pass_282 : decode cX8_pass 282 = .ok (.aload_n 0, 1) := by decide +kernel
theorem dX8_pass_283 : decode cX8_pass 283 = .ok (.iload_n 1, 1) := by decide +kernel
theorem dX8_pass_284 : decode cX8_pass 284 = .ok (.invokevirtual 222, 3) := by decide +kernel
theorem dX8_pass_287 : decode cX8_pass 287 = .ok (.aload_n 0, 1) := by decide +kernel
theorem dX8_pass_288 : decode cX8_pass 288 = .ok (.iload_n 2, 1) := by decide +kernel
theorem dX8_pass_289 : decode cX8_pass 289 = .ok (.invokevirtual 222, 3) := by decide +kernel
theorem dX8_pass_292 : decode cX8_pass 292 = .ok (.return_, 1) := by decide +kernel
set_option maxRecDepth 20000 in
theorem ggX8_meet_X8_pass : GoodIn wsX8_meet wsX8_pass := goodIn_r _ [8, 9, 10, 11, 12, 13, 14, 15, 16, 7, 17, 18, 19, 20, 21, 22, 23, 24, 25, 26, 27, 28, 29, 30, 31, 32, 33, 34, 35, 36, 37, 38, 39, 40, 41, 42, 68, 69, 70, 71, 72, 73, 74, 75, 76, 77, 78, 79, 80, 81, 82, 83, 84, 85, 86, 87, 88, 89, 90, 91, 92, 93, 94, 95, 96, 97, 98, 99, 100, 101, 102, 103, 104, 105, 106, 107, 108, 109, 110, 111, 112, 113, 114, 115, 116, 117, 118, 119, 120, 121, 122, 123, 124, 125] (by decide +kernel) (by decide +kernel)
set_option maxRecDepth 20000 in
theorem gX8_meet_X8_pass : GoodIn wsX8_meet (wsV RX8 250 RX8 yX8_pass wsX8_pass) := goodIn_app (goodIn_of _ (by decide +kernel)) ggX8_meet_X8_pass
set_option maxRecDepth 20000 in
theorem ggX8_meet_X8_join : GoodIn wsX8_meet wsX8_join := goodIn_r _ [46, 11, 15, 16, 7, 17, 47, 48, 49, 50, 14, 51, 52, 53, 54, 25, 26, 27, 28, 29, 30, 31, 32, 33, 34, 39, 40, 41, 42, 23, 22, 24, 68, 69, 70, 71, 72, 73, 74, 75, 76, 77, 78, 79, 80, 81, 82, 83, 84, 85, 86, 87, 88, 89, 90, 91, 92, 93, 94, 95, 96, 97, 98, 99, 100, 101, 102, 103, 104, 105, 106, 107, 108, 109, 110, 111, 112, 113, 114, 115, 116, 117, 118, 119, 120, 121, 122, 123, 124, 125] (by decide +kernel) (by decide +kernel)
set_option maxRecDepth 20000 in
theorem gX8_meet_X8_join : GoodIn wsX8_meet (wsV RX8 253 RX8 yX8_join wsX8_join) := goodIn_app (goodIn_of _ (by decide +kernel)) ggX8_meet_X8_join
set_option maxRecDepth 20000 in
theorem ggX8_meet_X8_erase : GoodIn wsX8_meet wsX8_erase := goodIn_r _ [58, 34, 33, 11, 59, 60, 61, 7, 62, 14, 39, 40, 41, 42, 23, 22, 24, 63, 64, 65, 66, 67, 15, 16, 17, 18, 19, 20, 21, 12, 25, 26, 27, 28, 29, 30, 31, 32, 68, 69, 70, 71, 72, 73, 74, 75, 76, 77, 78, 79, 80, 81, 82, 83, 84, 85, 86, 87, 88, 89, 90, 91, 92, 93, 94, 95, 96, 97, 98, 99, 100, 101, 102, 103, 104, 105, 106, 107, 108, 109, 110, 111, 112, 113, 114, 115, 116, 117, 118, 119, 120, 121, 122, 123, 124, 125] (by decide +kernel) (by decide +kernel)
set_option maxRecDepth 20000 in
theorem gX8_meet_X8_erase : GoodIn wsX8_meet (wsV RX8 162 RX8 yX8_erase wsX8_erase) := goodIn_app (goodIn_of _ (by decide +kernel)) ggX8_meet_X8_erase
theorem dX8_meet_0 : decode cX8_meet 0 = .ok (.iload_n 1, 1) := by decide +kernel
theorem dX8_meet_1 : decode cX8_meet 1 = .ok (.iconst 2, 1) := by decide +kernel
theorem dX8_meet_2 : decode cX8_meet 2 = .ok (.if_icmp .ne 20, 3) := by decide +kernel
theorem dX8_meet_5 : decode cX8_meet 5 = .ok (.aload_n 0, 1) := by decide +kernel
theorem dX8_meet_6 : decode cX8_meet 6 = .ok (.invokevirtual 250, 3) := by decide +kernel
theorem dX8_meet_9 : decode cX8_meet 9 = .ok (.aload_n 0, 1) := by decide +kernel
theorem dX8_meet_10 : decode cX8_meet 10 = .ok (.dup, 1) := by decide +kernel
theorem dX8_meet_11 : decode cX8_meet 11 = .ok (.getfield 150, 3) := by decide +kernel
theorem dX8_meet_14 : decode cX8_meet 14 = .ok (.iconst 1, 1) := by decide +kernel
theorem dX8_meet_15 : decode cX8_meet 15 = .ok (.iadd, 1) := by decide +kernel
theorem dX8_meet_16 : decode cX8_meet 16 = .ok (.putfield 150, 3) := by decide +kernel
theorem dX8_meet_19 : decode cX8_meet 19 = .ok (.goto 46, 3) := by decide +kernel
theorem dX8_meet_22 : decode cX8_meet 22 = .ok (.aload_n 0, 1) := by decide +kernel
theorem dX8_meet_23 : decode cX8_meet 23 = .ok (.iload_n 2, 1) := by decide +kernel
theorem dX8_meet_24 : decode cX8_meet 24 = .ok (.iload_n 3, 1) := by decide +kernel
theorem dX8_meet_25 : decode cX8_meet 25 = .ok (.invokevirtual 253, 3) := by decide +kernel
theorem dX8_meet_28 : decode cX8_meet 28 = .ok (.aload_n 0, 1) := by decide +kernel
theorem dX8_meet_29 : decode cX8_meet 29 = .ok (.dup, 1) := by decide +kernel
theorem dX8_meet_30 : decode cX8_meet 30 = .ok (.getfield 144, 3) := by decide +kernel
theorem dX8_meet_33 : decode cX8_meet 33 = .ok (.iload_n 1, 1) := by decide +kernel
theorem dX8_meet_34 : decode cX8_meet 34 = .ok (.ifCond .ne 7, 3) := by decide +kernel
theorem dX8_meet_37 : decode cX8_meet 37 = .ok (.iconst 1, 1) := by decide +kernel
theorem dX8_meet_38 : decode cX8_meet 38 = .ok (.goto 4, 3) := by decide +kernel
theorem dX8_meet_41 : decode cX8_meet 41 = .ok (.iconst 0, 1) := by decide +kernel
theorem dX8_meet_42 : decode cX8_meet 42 = .ok (.iadd, 1) := by decide +kernel
theorem dX8_meet_43 : decode cX8_meet 43 = .ok (.putfield 144, 3) := by decide +kernel
theorem dX8_meet_46 : decode cX8_meet 46 = .ok (.aload_n 0, 1) := by decide +kernel
theorem dX8_meet_47 : decode cX8_meet 47 = .ok (.dup, 1) := by decide +kernel
theorem dX8_meet_48 : decode cX8_meet 48 = .ok (.getfield 147, 3) := by decide +kernel
theorem dX8_meet_51 : decode cX8_meet 51 = .ok (.iload_n 1, 1) := by decide +kernel
theorem dX8_meet_52 : decode cX8_meet 52 = .ok (.iconst 1, 1) := by decide +kernel
theorem dX8_meet_53 : decode cX8_meet 53 = .ok (.if_icmp .ne 7, 3) := by decide +kernel
theorem dX8_meet_56 : decode cX8_meet 56 = .ok (.iconst 1, 1) := by decide +kernel
theorem dX8_meet_57 : decode cX8_meet 57 = .ok (.goto 4, 3) := by decide +kernel
theorem dX8_meet_60 : decode cX8_meet 60 = .ok (.iconst 0, 1) := by decide +kernel
theorem dX8_meet_61 : decode cX8_meet 61 = .ok (.iadd, 1) := by decide +kernel
theorem dX8_meet_62 : decode cX8_meet 62 = .ok (.putfield 147, 3) := by decide +kernel
theorem dX8_meet_65 : decode cX8_meet 65 = .ok (.aload_n 0, 1) := by decide +kernel
theorem dX8_meet_66 : decode cX8_meet 66 = .ok (.invokevirtual 162, 3) := by decide +kernel
theorem dX8_meet_69 : decode cX8_meet 69 = .ok (.return_, 1) := by decide +kernel
theorem dX8_level_0 : decode cX8_level 0 = .ok (.iload_n 1, 1) := by decide +kernel
theorem dX8_level_1 : decode cX8_level 1 = .ok (.bipush 31, 2) := by decide +kernel
theorem dX8_level_3 : decode cX8_level 3 = .ok (.iload_n 2, 1) := by decide +kernel
theorem dX8_level_4 : decode cX8_level 4 = .ok (.imul, 1) := by decide +kernel
theorem dX8_level_5 : decode cX8_level 5 = .ok (.iadd, 1) := by decide +kernel
theorem dX8_level_6 : decode cX8_level 6 = .ok (.sipush 1009, 3) := by decide +kernel
theorem dX8_level_9 : decode cX8_level 9 = .ok (.iload_n 3, 1) := by decide +kernel
theorem dX8_level_10 : decode cX8_level 10 = .ok (.imul, 1) := by decide +kernel
theorem dX8_level_11 : decode cX8_level 11 = .ok (.iadd, 1) := by decide +kernel
theorem dX8_level_12 : decode cX8_level 12 = .ok (.ldc_w 256, 3) := by decide +kernel
theorem dX8_level_15 : decode cX8_level 15 = .ok (.imul, 1) := by decide +kernel
theorem dX8_level_16 : decode cX8_level 16 = .ok (.bipush 23, 2) := by decide +kernel
theorem dX8_level_18 : decode cX8_level 18 = .ok (.iushr, 1) := by decide +kernel
theorem dX8_level_19 : decode cX8_level 19 = .ok (.istore 4, 2) := by decide +kernel
theorem dX8_level_21 : decode cX8_level 21 = .ok (.aload_n 0, 1) := by decide +kernel
theorem dX8_level_22 : decode cX8_level 22 = .ok (.getfield 185, 3) := by decide +kernel
theorem dX8_level_25 : decode cX8_level 25 = .ok (.iload 4, 2) := by decide +kernel
theorem dX8_level_27 : decode cX8_level 27 = .ok (.iaload, 1) := by decide +kernel
theorem dX8_level_28 : decode cX8_level 28 = .ok (.istore 5, 2) := by decide +kernel
theorem dX8_level_30 : decode cX8_level 30 = .ok (.iload 5, 2) := by decide +kernel
theorem dX8_level_32 : decode cX8_level 32 = .ok (.ifCond .le 51, 3) := by decide +kernel
theorem dX8_level_35 : decode cX8_level 35 = .ok (.aload_n 0, 1) := by decide +kernel
theorem dX8_level_36 : decode cX8_level 36 = .ok (.getfield 173, 3) := by decide +kernel
theorem dX8_level_39 : decode cX8_level 39 = .ok (.iload 5, 2) := by decide +kernel
theorem dX8_level_41 : decode cX8_level 41 = .ok (.iaload, 1) := by decide +kernel
theorem dX8_level_42 : decode cX8_level 42 = .ok (.iload_n 1, 1) := by decide +kernel
theorem dX8_level_43 : decode cX8_level 43 = .ok (.if_icmp .ne 28, 3) := by decide +kernel
theorem dX8_level_46 : decode cX8_level 46 = .ok (.aload_n 0, 1) := by decide +kernel
theorem dX8_level_47 : decode cX8_level 47 = .ok (.getfield 176, 3) := by decide +kernel
theorem dX8_level_50 : decode cX8_level 50 = .ok (.iload 5, 2) := by decide +kernel
theorem dX8_level_52 : decode cX8_level 52 = .ok (.iaload, 1) := by decide +kernel
theorem dX8_level_53 : decode cX8_level 53 = .ok (.iload_n 2, 1) := by decide +kernel
theorem dX8_level_54 : decode cX8_level 54 = .ok (.if_icmp .ne 17, 3) := by decide +kernel
theorem dX8_level_57 : decode cX8_level 57 = .ok (.aload_n 0, 1) := by decide +kernel
theorem dX8_level_58 : decode cX8_level 58 = .ok (.getfield 179, 3) := by decide +kernel
theorem dX8_level_61 : decode cX8_level 61 = .ok (.iload 5, 2) := by decide +kernel
theorem dX8_level_63 : decode cX8_level 63 = .ok (.iaload, 1) := by decide +kernel
theorem dX8_level_64 : decode cX8_level 64 = .ok (.iload_n 3, 1) := by decide +kernel
theorem dX8_level_65 : decode cX8_level 65 = .ok (.if_icmp .ne 6, 3) := by decide +kernel
theorem dX8_level_68 : decode cX8_level 68 = .ok (.iload 5, 2) := by decide +kernel
theorem dX8_level_70 : decode cX8_level 70 = .ok (.ireturn, 1) := by decide +kernel
theorem dX8_level_71 : decode cX8_level 71 = .ok (.aload_n 0, 1) := by decide +kernel
theorem dX8_level_72 : decode cX8_level 72 = .ok (.getfield 182, 3) := by decide +kernel
theorem dX8_level_75 : decode cX8_level 75 = .ok (.iload 5, 2) := by decide +kernel
theorem dX8_level_77 : decode cX8_level 77 = .ok (.iaload, 1) := by decide +kernel
theorem dX8_level_78 : decode cX8_level 78 = .ok (.istore 5, 2) := by decide +kernel
theorem dX8_level_80 : decode cX8_level 80 = .ok (.goto (-50), 3) := by decide +kernel
theorem dX8_level_83 : decode cX8_level 83 = .ok (.aload_n 0, 1) := by decide +kernel
theorem dX8_level_84 : decode cX8_level 84 = .ok (.getfield 257, 3) := by decide +kernel
theorem dX8_level_87 : decode cX8_level 87 = .ok (.istore 5, 2) := by decide +kernel
theorem dX8_level_89 : decode cX8_level 89 = .ok (.aload_n 0, 1) := by decide +kernel
theorem dX8_level_90 : decode cX8_level 90 = .ok (.dup, 1) := by decide +kernel
theorem dX8_level_91 : decode cX8_level 91 = .ok (.getfield 257, 3) := by decide +kernel
theorem dX8_level_94 : decode cX8_level 94 = .ok (.iconst 1, 1) := by decide +kernel
theorem dX8_level_95 : decode cX8_level 95 = .ok (.iadd, 1) := by decide +kernel
theorem dX8_level_96 : decode cX8_level 96 = .ok (.putfield 257, 3) := by decide +kernel
theorem dX8_level_99 : decode cX8_level 99 = .ok (.aload_n 0, 1) := by decide +kernel
theorem dX8_level_100 : decode cX8_level 100 = .ok (.getfield 173, 3) := by decide +kernel
theorem dX8_level_103 : decode cX8_level 103 = .ok (.iload 5, 2) := by decide +kernel
theorem dX8_level_105 : decode cX8_level 105 = .ok (.iload_n 1, 1) := by decide +kernel
theorem dX8_level_106 : decode cX8_level 106 = .ok (.iastore, 1) := by decide +kernel
theorem dX8_level_107 : decode cX8_level 107 = .ok (.aload_n 0, 1) := by decide +kernel
theorem dX8_level_108 : decode cX8_level 108 = .ok (.getfield 176, 3) := by decide +kernel
theorem dX8_level_111 : decode cX8_level 111 = .ok (.iload 5, 2) := by decide +kernel
theorem dX8_level_113 : decode cX8_level 113 = .ok (.iload_n 2, 1) := by decide +kernel
theorem dX8_level_114 : decode cX8_level 114 = .ok (.iastore, 1) := by decide +kernel
theorem dX8_level_115 : decode cX8_level 115 = .ok (.aload_n 0, 1) := by decide +kernel
theorem dX8_level_116 : decode cX8_level 116 = .ok (.getfield 179, 3) := by decide +kernel
theorem dX8_level_119 : decode cX8_level 119 = .ok (.iload 5, 2) := by decide +kernel
theorem dX8_level_121 : decode cX8_level 121 = .ok (.iload_n 3, 1) := by decide +kernel
theorem dX8_level_122 : decode cX8_level 122 = .ok (.iastore, 1) := by decide +kernel
theorem dX8_level_123 : decode cX8_level 123 = .ok (.aload_n 0, 1) := by decide +kernel
theorem dX8_level_124 : decode cX8_level 124 = .ok (.getfield 182, 3) := by decide +kernel
theorem dX8_level_127 : decode cX8_level 127 = .ok (.iload 5, 2) := by decide +kernel
theorem dX8_level_129 : decode cX8_level 129 = .ok (.aload_n 0, 1) := by decide +kernel
theorem dX8_level_130 : decode cX8_level 130 = .ok (.getfield 185, 3) := by decide +kernel
theorem dX8_level_133 : decode cX8_level 133 = .ok (.iload 4, 2) := by decide +kernel
theorem dX8_level_135 : decode cX8_level 135 = .ok (.iaload, 1) := by decide +kernel
theorem dX8_level_136 : decode cX8_level 136 = .ok (.iastore, 1) := by decide +kernel
theorem dX8_level_137 : decode cX8_level 137 = .ok (.aload_n 0, 1) := by decide +kernel
theorem dX8_level_138 : decode cX8_level 138 = .ok (.getfield 185, 3) := by decide +kernel
theorem dX8_level_141 : decode cX8_level 141 = .ok (.iload 4, 2) := by decide +kernel
theorem dX8_level_143 : decode cX8_level 143 = .ok (.iload 5, 2) := by decide +kernel
theorem dX8_level_145 : decode cX8_level 145 = .ok (.iastore, 1) := by decide +kernel
theorem dX8_level_146 : decode cX8_level 146 = .ok (.iload 5, 2) := by decide +kernel
theorem dX8_level_148 : decode cX8_level 148 = .ok (.ireturn, 1) := by decide +kernel
theorem dX8_list_0 : decode cX8_list 0 = .ok (.iload_n 1, 1) := by decide +kernel
theorem dX8_list_1 : decode cX8_list 1 = .ok (.ifCond .ne 9, 3) := by decide +kernel
theorem dX8_list_4 : decode cX8_list 4 = .ok (.iload_n 2, 1) := by decide +kernel
theorem dX8_list_5 : decode cX8_list 5 = .ok (.ifCond .ne 5, 3) := by decide +kernel
theorem dX8_list_8 : decode cX8_list 8 = .ok (.iconst 0, 1) := by decide +kernel
theorem dX8_list_9 : decode cX8_list 9 = .ok (.ireturn, 1) := by decide +kernel
theorem dX8_list_10 : decode cX8_list 10 = .ok (.aload_n 0, 1) := by decide +kernel
theorem dX8_list_11 : decode cX8_list 11 = .ok (.getfield 189, 3) := by decide +kernel
theorem dX8_list_14 : decode cX8_list 14 = .ok (.aload_n 0, 1) := by decide +kernel
theorem dX8_list_15 : decode cX8_list 15 = .ok (.getfield 260, 3) := by decide +kernel
theorem dX8_list_18 : decode cX8_list 18 = .ok (.iload_n 1, 1) := by decide +kernel
theorem dX8_list_19 : decode cX8_list 19 = .ok (.iastore, 1) := by decide +kernel
theorem dX8_list_20 : decode cX8_list 20 = .ok (.aload_n 0, 1) := by decide +kernel
theorem dX8_list_21 : decode cX8_list 21 = .ok (.getfield 192, 3) := by decide +kernel
theorem dX8_list_24 : decode cX8_list 24 = .ok (.aload_n 0, 1) := by decide +kernel
theorem dX8_list_25 : decode cX8_list 25 = .ok (.getfield 260, 3) := by decide +kernel
theorem dX8_list_28 : decode cX8_list 28 = .ok (.iload_n 2, 1) := by decide +kernel
theorem dX8_list_29 : decode cX8_list 29 = .ok (.iastore, 1) := by decide +kernel
theorem dX8_list_30 : decode cX8_list 30 = .ok (.aload_n 0, 1) := by decide +kernel
theorem dX8_list_31 : decode cX8_list 31 = .ok (.dup, 1) := by decide +kernel
theorem dX8_list_32 : decode cX8_list 32 = .ok (.getfield 260, 3) := by decide +kernel
theorem dX8_list_35 : decode cX8_list 35 = .ok (.iconst 1, 1) := by decide +kernel
theorem dX8_list_36 : decode cX8_list 36 = .ok (.iadd, 1) := by decide +kernel
theorem dX8_list_37 : decode cX8_list 37 = .ok (.putfield 260, 3) := by decide +kernel
theorem dX8_list_40 : decode cX8_list 40 = .ok (.aload_n 0, 1) := by decide +kernel
theorem dX8_list_41 : decode cX8_list 41 = .ok (.getfield 260, 3) := by decide +kernel
theorem dX8_list_44 : decode cX8_list 44 = .ok (.iconst 1, 1) := by decide +kernel
theorem dX8_list_45 : decode cX8_list 45 = .ok (.isub, 1) := by decide +kernel
theorem dX8_list_46 : decode cX8_list 46 = .ok (.ireturn, 1) := by decide +kernel
theorem dX8_head_0 : decode cX8_head 0 = .ok (.iload_n 1, 1) := by decide +kernel
theorem dX8_head_1 : decode cX8_head 1 = .ok (.ifCond .ne 7, 3) := by decide +kernel
theorem dX8_head_4 : decode cX8_head 4 = .ok (.iconst 0, 1) := by decide +kernel
theorem dX8_head_5 : decode cX8_head 5 = .ok (.goto 9, 3) := by decide +kernel
theorem dX8_head_8 : decode cX8_head 8 = .ok (.aload_n 0, 1) := by decide +kernel
theorem dX8_head_9 : decode cX8_head 9 = .ok (.getfield 189, 3) := by decide +kernel
theorem dX8_head_12 : decode cX8_head 12 = .ok (.iload_n 1, 1) := by decide +kernel
theorem dX8_head_13 : decode cX8_head 13 = .ok (.iaload, 1) := by decide +kernel
theorem dX8_head_14 : decode cX8_head 14 = .ok (.ireturn, 1) := by decide +kernel
theorem dX8_tail_0 : decode cX8_tail 0 = .ok (.iload_n 1, 1) := by decide +kernel
theorem dX8_tail_1 : decode cX8_tail 1 = .ok (.ifCond .ne 7, 3) := by decide +kernel
theorem dX8_tail_4 : decode cX8_tail 4 = .ok (.iconst 0, 1) := by decide +kernel
theorem dX8_tail_5 : decode cX8_tail 5 = .ok (.goto 9, 3) := by decide +kernel
theorem dX8_tail_8 : decode cX8_tail 8 = .ok (.aload_n 0, 1) := by decide +kernel
theorem dX8_tail_9 : decode cX8_tail 9 = .ok (.getfield 192, 3) := by decide +kernel
theorem dX8_tail_12 : decode cX8_tail 12 = .ok (.iload_n 1, 1) := by decide +kernel
theorem dX8_tail_13 : decode cX8_tail 13 = .ok (.iaload, 1) := by decide +kernel
theorem dX8_tail_14 : decode cX8_tail 14 = .ok (.ireturn, 1) := by decide +kernel
theorem dX8_behind_0 : decode cX8_behind 0 = .ok (.iload_n 1, 1) := by decide +kernel
theorem dX8_behind_1 : decode cX8_behind 1 = .ok (.istore_n 3, 1) := by decide +kernel
theorem dX8_behind_2 : decode cX8_behind 2 = .ok (.iconst 0, 1) := by decide +kernel
theorem dX8_behind_3 : decode cX8_behind 3 = .ok (.istore 4, 2) := by decide +kernel
theorem dX8_behind_5 : decode cX8_behind 5 = .ok (.iload 4, 2) := by decide +kernel
theorem dX8_behind_7 : decode cX8_behind 7 = .ok (.iload_n 2, 1) := by decide +kernel
theorem dX8_behind_8 : decode cX8_behind 8 = .ok (.if_icmp .ge 20, 3) := by decide +kernel
theorem dX8_behind_11 : decode cX8_behind 11 = .ok (.iload_n 3, 1) := by decide +kernel
theorem dX8_behind_12 : decode cX8_behind 12 = .ok (.ifCond .eq 16, 3) := by decide +kernel
theorem dX8_behind_15 : decode cX8_behind 15 = .ok (.aload_n 0, 1) := by decide +kernel
theorem dX8_behind_16 : decode cX8_behind 16 = .ok (.getfield 192, 3) := by decide +kernel
theorem dX8_behind_19 : decode cX8_behind 19 = .ok (.iload_n 3, 1) := by decide +kernel
theorem dX8_behind_20 : decode cX8_behind 20 = .ok (.iaload, 1) := by decide +kernel
theorem dX8_behind_21 : decode cX8_behind 21 = .ok (.istore_n 3, 1) := by decide +kernel
theorem dX8_behind_22 : decode cX8_behind 22 = .ok (.iinc 4 1, 3) := by decide +kernel
theorem dX8_behind_25 : decode cX8_behind 25 = .ok (.goto (-20), 3) := by decide +kernel
theorem dX8_behind_28 : decode cX8_behind 28 = .ok (.iload_n 3, 1) := by decide +kernel
theorem dX8_behind_29 : decode cX8_behind 29 = .ok (.ireturn, 1) := by decide +kernel
set_option maxRecDepth 20000 in
theorem ggX8_with_X8_head : GoodIn wsX8_with wsX8_head := goodIn_r _ [6, 7, 18, 19, 20, 21, 22, 23, 24, 25, 26, 27, 28, 29, 30, 31, 32, 33, 34, 35, 36, 37, 38, 39, 40, 41, 42, 43, 44, 45, 46, 47, 48, 49, 50, 51, 52, 53, 54, 55, 56, 57, 58, 59, 60, 61, 62, 63, 64, 65, 66, 67, 68, 69, 70, 71, 72, 73, 74, 75] (by decide +kernel) (by decide +kernel)
set_option maxRecDepth 20000 in
theorem gX8_with_X8_head : GoodIn wsX8_with (wsV RX8 263 RX8 yX8_head wsX8_head) := goodIn_app (goodIn_of _ (by decide +kernel)) ggX8_with_X8_head
set_option maxRecDepth 20000 in
theorem ggX8_with_X8_tail : GoodIn wsX8_with wsX8_tail := goodIn_r _ [11, 12, 18, 19, 20, 21, 22, 23, 24, 25, 26, 27, 28, 29, 30, 31, 32, 33, 34, 35, 36, 37, 38, 39, 40, 41, 42, 43, 44, 45, 46, 47, 48, 49, 50, 51, 52, 53, 54, 55, 56, 57, 58, 59, 60, 61, 62, 63, 64, 65, 66, 67, 68, 69, 70, 71, 72, 73, 74, 75] (by decide +kernel) (by decide +kernel)
set_option maxRecDepth 20000 in
theorem gX8_with_X8_tail : GoodIn wsX8_with (wsV RX8 266 RX8 yX8_tail wsX8_tail) := goodIn_app (goodIn_of _ (by decide +kernel)) ggX8_with_X8_tail
set_option maxRecDepth 20000 in
theorem ggX8_with_X8_list : GoodIn wsX8_with wsX8_list := goodIn_r _ [16, 7, 17, 12, 18, 19, 20, 21, 22, 23, 24, 25, 26, 27, 28, 29, 30, 31, 32, 33, 34, 35, 36, 37, 38, 39, 40, 41, 42, 43, 44, 45, 46, 47, 48, 49, 50, 51, 52, 53, 54, 55, 56, 57, 58, 59, 60, 61, 62, 63, 64, 65, 66, 67, 68, 69, 70, 71, 72, 73, 74, 75] (by decide +kernel) (by decide +kernel)
set_option maxRecDepth 20000 in
theorem gX8_with_X8_list : GoodIn wsX8_with (wsV RX8 269 RX8 yX8_list wsX8_list) := goodIn_app (goodIn_of _ (by decide +kernel)) ggX8_with_X8_list
theorem dX8_with_0 : decode cX8_with 0 = .ok (.iload_n 1, 1) := by decide +kernel
theorem dX8_with_1 : decode cX8_with 1 = .ok (.istore 4, 2) := by decide +kernel
theorem dX8_with_3 : decode cX8_with 3 = .ok (.iconst 0, 1) := by decide +kernel
theorem dX8_with_4 : decode cX8_with 4 = .ok (.istore 5, 2) := by decide +kernel
theorem dX8_with_6 : decode cX8_with 6 = .ok (.iload 5, 2) := by decide +kernel
theorem dX8_with_8 : decode cX8_with 8 = .ok (.iload_n 2, 1) := by decide +kernel
theorem dX8_with_9 : decode cX8_with 9 = .ok (.if_icmp .ge 30, 3) := by decide +kernel
theorem dX8_with_12 : decode cX8_with 12 = .ok (.aload_n 0, 1) := by decide +kernel
theorem dX8_with_13 : decode cX8_with 13 = .ok (.getfield 195, 3) := by decide +kernel
theorem dX8_with_16 : decode cX8_with 16 = .ok (.iload 5, 2) := by decide +kernel
theorem dX8_with_18 : decode cX8_with 18 = .ok (.aload_n 0, 1) := by decide +kernel
theorem dX8_with_19 : decode cX8_with 19 = .ok (.iload 4, 2) := by decide +kernel
theorem dX8_with_21 : decode cX8_with 21 = .ok (.invokevirtual 263, 3) := by decide +kernel
theorem dX8_with_24 : decode cX8_with 24 = .ok (.iastore, 1) := by decide +kernel
theorem dX8_with_25 : decode cX8_with 25 = .ok (.aload_n 0, 1) := by decide +kernel
theorem dX8_with_26 : decode cX8_with 26 = .ok (.iload 4, 2) := by decide +kernel
theorem dX8_with_28 : decode cX8_with 28 = .ok (.invokevirtual 266, 3) := by decide +kernel
theorem dX8_with_31 : decode cX8_with 31 = .ok (.istore 4, 2) := by decide +kernel
theorem dX8_with_33 : decode cX8_with 33 = .ok (.iinc 5 1, 3) := by decide +kernel
theorem dX8_with_36 : decode cX8_with 36 = .ok (.goto (-30), 3) := by decide +kernel
theorem dX8_with_39 : decode cX8_with 39 = .ok (.iload_n 3, 1) := by decide +kernel
theorem dX8_with_40 : decode cX8_with 40 = .ok (.istore 5, 2) := by decide +kernel
theorem dX8_with_42 : decode cX8_with 42 = .ok (.iload_n 2, 1) := by decide +kernel
theorem dX8_with_43 : decode cX8_with 43 = .ok (.iconst 1, 1) := by decide +kernel
theorem dX8_with_44 : decode cX8_with 44 = .ok (.isub, 1) := by decide +kernel
theorem dX8_with_45 : decode cX8_with 45 = .ok (.istore 6, 2) := by decide +kernel
theorem dX8_with_47 : decode cX8_with 47 = .ok (.iload 6, 2) := by decide +kernel
theorem dX8_with_49 : decode cX8_with 49 = .ok (.ifCond .lt 24, 3) := by decide +kernel
theorem dX8_with_52 : decode cX8_with 52 = .ok (.aload_n 0, 1) := by decide +kernel
theorem dX8_with_53 : decode cX8_with 53 = .ok (.aload_n 0, 1) := by decide +kernel
theorem dX8_with_54 : decode cX8_with 54 = .ok (.getfield 195, 3) := by decide +kernel
theorem dX8_with_57 : decode cX8_with 57 = .ok (.iload 6, 2) := by decide +kernel
theorem dX8_with_59 : decode cX8_with 59 = .ok (.iaload, 1) := by decide +kernel
theorem dX8_with_60 : decode cX8_with 60 = .ok (.iload 5, 2) := by decide +kernel
theorem dX8_with_62 : decode cX8_with 62 = .ok (.invokevirtual 269, 3) := by decide +kernel
theorem dX8_with_65 : decode cX8_with 65 = .ok (.istore 5, 2) := by decide +kernel
theorem dX8_with_67 : decode cX8_with 67 = .ok (.iinc 6 (-1), 3) := by decide +kernel
theorem dX8_with_70 : decode cX8_with 70 = .ok (.goto (-23), 3) := by decide +kernel
theorem dX8_with_73 : decode cX8_with 73 = .ok (.iload 5, 2) := by decide +kernel
theorem dX8_with_75 : decode cX8_with 75 = .ok (.ireturn, 1) := by decide +kernel
set_option maxRecDepth 20000 in
theorem ggX8_areSame_X8_head : GoodIn wsX8_areSame wsX8_head := goodIn_r _ [5, 6, 12, 13, 14, 15, 16, 17, 18, 19, 20, 21, 22, 23, 24, 25, 26, 27, 28, 29, 30, 31, 32, 33, 34, 35, 36, 37, 38, 39, 40, 41, 42, 43, 44, 45, 46, 47, 48, 49, 50, 51, 52, 53, 54, 55, 56, 57, 58, 59, 60, 61, 62, 63, 64, 65, 66, 67, 68, 69] (by decide +kernel) (by decide +kernel)
set_option maxRecDepth 20000 in
theorem gX8_areSame_X8_head : GoodIn wsX8_areSame (wsV RX8 263 RX8 yX8_head wsX8_head) := goodIn_app (goodIn_of _ (by decide +kernel)) ggX8_areSame_X8_head
set_option maxRecDepth 20000 in
theorem ggX8_areSame_X8_tail : GoodIn wsX8_areSame wsX8_tail := goodIn_r _ [10, 11, 12, 13, 14, 15, 16, 17, 18, 19, 20, 21, 22, 23, 24, 25, 26, 27, 28, 29, 30, 31, 32, 33, 34, 35, 36, 37, 38, 39, 40, 41, 42, 43, 44, 45, 46, 47, 48, 49, 50, 51, 52, 53, 54, 55, 56, 57, 58, 59, 60, 61, 62, 63, 64, 65, 66, 67, 68, 69] (by decide +kernel) (by decide +kernel)
set_option maxRecDepth 20000 in
theorem gX8_areSame_X8_tail : GoodIn wsX8_areSame (wsV RX8 266 RX8 yX8_tail wsX8_tail) := goodIn_app (goodIn_of _ (by decide +kernel)) ggX8_areSame_X8_tail
theorem dX8_areSame_0 : decode cX8_areSame 0 = .ok (.iload_n 1, 1) := by decide +kernel
theorem dX8_areSame_1 : decode cX8_areSame 1 = .ok (.istore 4, 2) := by decide +kernel
theorem dX8_areSame_3 : decode cX8_areSame 3 = .ok (.iload_n 2, 1) := by decide +kernel
theorem dX8_areSame_4 : decode cX8_areSame 4 = .ok (.istore 5, 2) := by decide +kernel
theorem dX8_areSame_6 : decode cX8_areSame 6 = .ok (.iconst 0, 1) := by decide +kernel
theorem dX8_areSame_7 : decode cX8_areSame 7 = .ok (.istore 6, 2) := by decide +kernel
theorem dX8_areSame_9 : decode cX8_areSame 9 = .ok (.iload 6, 2) := by decide +kernel
theorem dX8_areSame_11 : decode cX8_areSame 11 = .ok (.iload_n 3, 1) := by decide +kernel
theorem dX8_areSame_12 : decode cX8_areSame 12 = .ok (.if_icmp .ge 42, 3) := by decide +kernel
theorem dX8_areSame_15 : decode cX8_areSame 15 = .ok (.aload_n 0, 1) := by decide +kernel
theorem dX8_areSame_16 : decode cX8_areSame 16 = .ok (.iload 4, 2) := by decide +kernel
theorem dX8_areSame_18 : decode cX8_areSame 18 = .ok (.invokevirtual 263, 3) := by decide +kernel
theorem dX8_areSame_21 : decode cX8_areSame 21 = .ok (.aload_n 0, 1) := by decide +kernel
theorem dX8_areSame_22 : decode cX8_areSame 22 = .ok (.iload 5, 2) := by decide +kernel
theorem dX8_areSame_24 : decode cX8_areSame 24 = .ok (.invokevirtual 263, 3) := by decide +kernel
theorem dX8_areSame_27 : decode cX8_areSame 27 = .ok (.if_icmp .eq 5, 3) := by decide +kernel
theorem dX8_areSame_30 : decode cX8_areSame 30 = .ok (.iconst 0, 1) := by decide +kernel
theorem dX8_areSame_31 : decode cX8_areSame 31 = .ok (.ireturn, 1) := by decide +kernel
theorem dX8_areSame_32 : decode cX8_areSame 32 = .ok (.aload_n 0, 1) := by decide +kernel
theorem dX8_areSame_33 : decode cX8_areSame 33 = .ok (.iload 4, 2) := by decide +kernel
theorem dX8_areSame_35 : decode cX8_areSame 35 = .ok (.invokevirtual 266, 3) := by decide +kernel
theorem dX8_areSame_38 : decode cX8_areSame 38 = .ok (.istore 4, 2) := by decide +kernel
theorem dX8_areSame_40 : decode cX8_areSame 40 = .ok (.aload_n 0, 1) := by decide +kernel
theorem dX8_areSame_41 : decode cX8_areSame 41 = .ok (.iload 5, 2) := by decide +kernel
theorem dX8_areSame_43 : decode cX8_areSame 43 = .ok (.invokevirtual 266, 3) := by decide +kernel
theorem dX8_areSame_46 : decode cX8_areSame 46 = .ok (.istore 5, 2) := by decide +kernel
theorem dX8_areSame_48 : decode cX8_areSame 48 = .ok (.iinc 6 1, 3) := by decide +kernel
theorem dX8_areSame_51 : decode cX8_areSame 51 = .ok (.goto (-42), 3) := by decide +kernel
theorem dX8_areSame_54 : decode cX8_areSame 54 = .ok (.iconst 1, 1) := by decide +kernel
theorem dX8_areSame_55 : decode cX8_areSame 55 = .ok (.ireturn, 1) := by decide +kernel
theorem dX8_tell_0 : decode cX8_tell 0 = .ok (.aload_n 0, 1) := by decide +kernel
theorem dX8_tell_1 : decode cX8_tell 1 = .ok (.getfield 272, 3) := by decide +kernel
theorem dX8_tell_4 : decode cX8_tell 4 = .ok (.sipush 4000, 3) := by decide +kernel
theorem dX8_tell_7 : decode cX8_tell 7 = .ok (.if_icmp .ge 14, 3) := by decide +kernel
theorem dX8_tell_10 : decode cX8_tell 10 = .ok (.aload_n 0, 1) := by decide +kernel
theorem dX8_tell_11 : decode cX8_tell 11 = .ok (.getfield 198, 3) := by decide +kernel
theorem dX8_tell_14 : decode cX8_tell 14 = .ok (.aload_n 0, 1) := by decide +kernel
theorem dX8_tell_15 : decode cX8_tell 15 = .ok (.getfield 272, 3) := by decide +kernel
theorem dX8_tell_18 : decode cX8_tell 18 = .ok (.iload_n 1, 1) := by decide +kernel
theorem dX8_tell_19 : decode cX8_tell 19 = .ok (.i2b, 1) := by decide +kernel
theorem dX8_tell_20 : decode cX8_tell 20 = .ok (.bastore, 1) := by decide +kernel
theorem dX8_tell_21 : decode cX8_tell 21 = .ok (.aload_n 0, 1) := by decide +kernel
theorem dX8_tell_22 : decode cX8_tell 22 = .ok (.dup, 1) := by decide +kernel
theorem dX8_tell_23 : decode cX8_tell 23 = .ok (.getfield 272, 3) := by decide +kernel
theorem dX8_tell_26 : decode cX8_tell 26 = .ok (.iconst 1, 1) := by decide +kernel
theorem dX8_tell_27 : decode cX8_tell 27 = .ok (.iadd, 1) := by decide +kernel
theorem dX8_tell_28 : decode cX8_tell 28 = .ok (.putfield 272, 3) := by decide +kernel
theorem dX8_tell_31 : decode cX8_tell 31 = .ok (.return_, 1) := by decide +kernel
set_option maxRecDepth 20000 in
theorem ggX8_tellNumber_X8_tell : GoodIn wsX8_tellNumber wsX8_tell := goodIn_r _ [5, 6, 7, 8, 9, 10, 11, 12, 13, 14, 15, 16, 17, 18, 19, 20, 21, 22, 23, 24, 25, 26, 27, 28, 29, 30, 31, 32, 33, 34, 35, 36, 37, 38, 39, 40, 41, 42, 43, 44, 45, 46, 47, 48, 49, 50, 51, 52, 53, 54, 55, 56, 57, 58, 59, 60, 61, 62, 63, 64, 65] (by decide +kernel) (by decide +kernel)
set_option maxRecDepth 20000 in
theorem gX8_tellNumber_X8_tell : GoodIn wsX8_tellNumber (wsV RX8 275 RX8 yX8_tell wsX8_tell) := goodIn_app (goodIn_of _ (by decide +kernel)) ggX8_tellNumber_X8_tell
theorem dX8_tellNumber_0 : decode cX8_tellNumber 0 = .ok (.iconst 1, 1) := by decide +kernel
theorem dX8_tellNumber_1 : decode cX8_tellNumber 1 = .ok (.istore_n 2, 1) := by decide +kernel
theorem dX8_tellNumber_2 : decode cX8_tellNumber 2 = .ok (.iload_n 1, 1) := by decide +kernel
theorem dX8_tellNumber_3 : decode cX8_tellNumber 3 = .ok (.iload_n 2, 1) := by decide +kernel
theorem dX8_tellNumber_4 : decode cX8_tellNumber 4 = .ok (.idiv, 1) := by decide +kernel
theorem dX8_tellNumber_5 : decode cX8_tellNumber 5 = .ok (.bipush 9, 2) := by decide +kernel
theorem dX8_tellNumber_7 : decode cX8_tellNumber 7 = .ok (.if_icmp .le 11, 3) := by decide +kernel
theorem dX8_tellNumber_10 : decode cX8_tellNumber 10 = .ok (.bipush 10, 2) := by decide +kernel
theorem dX8_tellNumber_12 : decode cX8_tellNumber 12 = .ok (.iload_n 2, 1) := by decide +kernel
theorem dX8_tellNumber_13 : decode cX8_tellNumber 13 = .ok (.imul, 1) := by decide +kernel
theorem dX8_tellNumber_14 : decode cX8_tellNumber 14 = .ok (.istore_n 2, 1) := by decide +kernel
theorem dX8_tellNumber_15 : decode cX8_tellNumber 15 = .ok (.goto (-13), 3) := by decide +kernel
theorem dX8_tellNumber_18 : decode cX8_tellNumber 18 = .ok (.iload_n 2, 1) := by decide +kernel
theorem dX8_tellNumber_19 : decode cX8_tellNumber 19 = .ok (.ifCond .le 24, 3) := by decide +kernel
theorem dX8_tellNumber_22 : decode cX8_tellNumber 22 = .ok (.aload_n 0, 1) := by decide +kernel
theorem dX8_tellNumber_23 : decode cX8_tellNumber 23 = .ok (.bipush 48, 2) := by decide +kernel
theorem dX8_tellNumber_25 : decode cX8_tellNumber 25 = .ok (.iload_n 1, 1) := by decide +kernel
theorem dX8_tellNumber_26 : decode cX8_tellNumber 26 = .ok (.iload_n 2, 1) := by decide +kernel
theorem dX8_tellNumber_27 : decode cX8_tellNumber 27 = .ok (.idiv, 1) := by decide +kernel
theorem dX8_tellNumber_28 : decode cX8_tellNumber 28 = .ok (.bipush 10, 2) := by decide +kernel
theorem dX8_tellNumber_30 : decode cX8_tellNumber 30 = .ok (.irem, 1) := by decide +kernel
theorem dX8_tellNumber_31 : decode cX8_tellNumber 31 = .ok (.iadd, 1) := by decide +kernel
theorem dX8_tellNumber_32 : decode cX8_tellNumber 32 = .ok (.invokevirtual 275, 3) := by decide +kernel
theorem dX8_tellNumber_35 : decode cX8_tellNumber 35 = .ok (.iload_n 2, 1) := by decide +kernel
theorem dX8_tellNumber_36 : decode cX8_tellNumber 36 = .ok (.bipush 10, 2) := by decide +kernel
theorem dX8_tellNumber_38 : decode cX8_tellNumber 38 = .ok (.idiv, 1) := by decide +kernel
theorem dX8_tellNumber_39 : decode cX8_tellNumber 39 = .ok (.istore_n 2, 1) := by decide +kernel
theorem dX8_tellNumber_40 : decode cX8_tellNumber 40 = .ok (.goto (-22), 3) := by decide +kernel
theorem dX8_tellNumber_43 : decode cX8_tellNumber 43 = .ok (.return_, 1) := by decide +kernel
theorem dX8_after_0 : decode cX8_after 0 = .ok (.aload_n 0, 1) := by decide +kernel
theorem dX8_after_1 : decode cX8_after 1 = .ok (.getfield 207, 3) := by decide +kernel
theorem dX8_after_4 : decode cX8_after 4 = .ok (.aload_n 0, 1) := by decide +kernel
theorem dX8_after_5 : decode cX8_after 5 = .ok (.getfield 278, 3) := by decide +kernel
theorem dX8_after_8 : decode cX8_after 8 = .ok (.iload_n 1, 1) := by decide +kernel
theorem dX8_after_9 : decode cX8_after 9 = .ok (.iastore, 1) := by decide +kernel
theorem dX8_after_10 : decode cX8_after 10 = .ok (.aload_n 0, 1) := by decide +kernel
theorem dX8_after_11 : decode cX8_after 11 = .ok (.getfield 210, 3) := by decide +kernel
theorem dX8_after_14 : decode cX8_after 14 = .ok (.aload_n 0, 1) := by decide +kernel
theorem dX8_after_15 : decode cX8_after 15 = .ok (.getfield 278, 3) := by decide +kernel
theorem dX8_after_18 : decode cX8_after 18 = .ok (.iload_n 2, 1) := by decide +kernel
theorem dX8_after_19 : decode cX8_after 19 = .ok (.iastore, 1) := by decide +kernel
theorem dX8_after_20 : decode cX8_after 20 = .ok (.aload_n 0, 1) := by decide +kernel
theorem dX8_after_21 : decode cX8_after 21 = .ok (.dup, 1) := by decide +kernel
theorem dX8_after_22 : decode cX8_after 22 = .ok (.getfield 278, 3) := by decide +kernel
theorem dX8_after_25 : decode cX8_after 25 = .ok (.iconst 1, 1) := by decide +kernel
theorem dX8_after_26 : decode cX8_after 26 = .ok (.iadd, 1) := by decide +kernel
theorem dX8_after_27 : decode cX8_after 27 = .ok (.putfield 278, 3) := by decide +kernel
theorem dX8_after_30 : decode cX8_after 30 = .ok (.return_, 1) := by decide +kernel
set_option maxRecDepth 20000 in
theorem ggX8_goOn_X8_tell : GoodIn wsX8_goOn wsX8_tell := goodIn_r _ [11, 12, 13, 18, 19, 20, 21, 22, 23, 24, 25, 26, 27, 28, 29, 30, 31, 32, 33, 34, 35, 36, 37, 38, 39, 40, 41, 42, 43, 44, 45, 46, 47, 48, 49, 50, 51, 52, 53, 54, 55, 56, 57, 58, 59, 60, 61, 62, 63, 64, 65, 66, 67, 68, 69, 70, 71, 72, 73, 74, 75] (by decide +kernel) (by decide +kernel)
set_option maxRecDepth 20000 in
theorem gX8_goOn_X8_tell : GoodIn wsX8_goOn (wsV RX8 275 RX8 yX8_tell wsX8_tell) := goodIn_app (goodIn_of _ (by decide +kernel)) ggX8_goOn_X8_tell
set_option maxRecDepth 20000 in
theorem ggX8_goOn_X8_after : GoodIn wsX8_goOn wsX8_after := goodIn_r _ [17, 2, 1, 4, 18, 19, 20, 21, 22, 23, 24, 25, 26, 27, 28, 29, 30, 31, 32, 33, 34, 35, 36, 37, 38, 39, 40, 41, 42, 43, 44, 45, 46, 47, 48, 49, 50, 51, 52, 53, 54, 55, 56, 57, 58, 59, 60, 61, 62, 63, 64, 65, 66, 67, 68, 69, 70, 71, 72, 73, 74, 75] (by decide +kernel) (by decide +kernel)
set_option maxRecDepth 20000 in
theorem gX8_goOn_X8_after : GoodIn wsX8_goOn (wsV RX8 290 RX8 yX8_after wsX8_after) := goodIn_app (goodIn_of _ (by decide +kernel)) ggX8_goOn_X8_after
theorem dX8_goOn_0 : decode cX8_goOn 0 = .ok (.aload_n 0, 1) := by decide +kernel
theorem dX8_goOn_1 : decode cX8_goOn 1 = .ok (.getfield 278, 3) := by decide +kernel
theorem dX8_goOn_4 : decode cX8_goOn 4 = .ok (.ifCond .le 97, 3) := by decide +kernel
theorem dX8_goOn_7 : decode cX8_goOn 7 = .ok (.aload_n 0, 1) := by decide +kernel
theorem dX8_goOn_8 : decode cX8_goOn 8 = .ok (.dup, 1) := by decide +kernel
theorem dX8_goOn_9 : decode cX8_goOn 9 = .ok (.getfield 278, 3) := by decide +kernel
theorem dX8_goOn_12 : decode cX8_goOn 12 = .ok (.iconst 1, 1) := by decide +kernel
theorem dX8_goOn_13 : decode cX8_goOn 13 = .ok (.isub, 1) := by decide +kernel
theorem dX8_goOn_14 : decode cX8_goOn 14 = .ok (.putfield 278, 3) := by decide +kernel
theorem dX8_goOn_17 : decode cX8_goOn 17 = .ok (.aload_n 0, 1) := by decide +kernel
theorem dX8_goOn_18 : decode cX8_goOn 18 = .ok (.getfield 207, 3) := by decide +kernel
theorem dX8_goOn_21 : decode cX8_goOn 21 = .ok (.aload_n 0, 1) := by decide +kernel
theorem dX8_goOn_22 : decode cX8_goOn 22 = .ok (.getfield 278, 3) := by decide +kernel
theorem dX8_goOn_25 : decode cX8_goOn 25 = .ok (.iaload, 1) := by decide +kernel
theorem dX8_goOn_26 : decode cX8_goOn 26 = .ok (.istore_n 1, 1) := by decide +kernel
theorem dX8_goOn_27 : decode cX8_goOn 27 = .ok (.iload_n 1, 1) := by decide +kernel
theorem dX8_goOn_28 : decode cX8_goOn 28 = .ok (.iconst (-1), 1) := by decide +kernel
theorem dX8_goOn_29 : decode cX8_goOn 29 = .ok (.if_icmp .ne 16, 3) := by decide +kernel
theorem dX8_goOn_32 : decode cX8_goOn 32 = .ok (.aload_n 0, 1) := by decide +kernel
theorem dX8_goOn_33 : decode cX8_goOn 33 = .ok (.dup, 1) := by decide +kernel
theorem dX8_goOn_34 : decode cX8_goOn 34 = .ok (.getfield 281, 3) := by decide +kernel
theorem dX8_goOn_37 : decode cX8_goOn 37 = .ok (.iconst 1, 1) := by decide +kernel
theorem dX8_goOn_38 : decode cX8_goOn 38 = .ok (.isub, 1) := by decide +kernel
theorem dX8_goOn_39 : decode cX8_goOn 39 = .ok (.putfield 281, 3) := by decide +kernel
theorem dX8_goOn_42 : decode cX8_goOn 42 = .ok (.goto 56, 3) := by decide +kernel
theorem dX8_goOn_45 : decode cX8_goOn 45 = .ok (.iload_n 1, 1) := by decide +kernel
theorem dX8_goOn_46 : decode cX8_goOn 46 = .ok (.bipush (-2), 2) := by decide +kernel
theorem dX8_goOn_48 : decode cX8_goOn 48 = .ok (.if_icmp .ne 12, 3) := by decide +kernel
theorem dX8_goOn_51 : decode cX8_goOn 51 = .ok (.aload_n 0, 1) := by decide +kernel
theorem dX8_goOn_52 : decode cX8_goOn 52 = .ok (.bipush 41, 2) := by decide +kernel
theorem dX8_goOn_54 : decode cX8_goOn 54 = .ok (.invokevirtual 275, 3) := by decide +kernel
theorem dX8_goOn_57 : decode cX8_goOn 57 = .ok (.goto 41, 3) := by decide +kernel
theorem dX8_goOn_60 : decode cX8_goOn 60 = .ok (.aload_n 0, 1) := by decide +kernel
theorem dX8_goOn_61 : decode cX8_goOn 61 = .ok (.bipush 32, 2) := by decide +kernel
theorem dX8_goOn_63 : decode cX8_goOn 63 = .ok (.invokevirtual 275, 3) := by decide +kernel
theorem dX8_goOn_66 : decode cX8_goOn 66 = .ok (.aload_n 0, 1) := by decide +kernel
theorem dX8_goOn_67 : decode cX8_goOn 67 = .ok (.aload_n 0, 1) := by decide +kernel
theorem dX8_goOn_68 : decode cX8_goOn 68 = .ok (.getfield 210, 3) := by decide +kernel
theorem dX8_goOn_71 : decode cX8_goOn 71 = .ok (.aload_n 0, 1) := by decide +kernel
theorem dX8_goOn_72 : decode cX8_goOn 72 = .ok (.getfield 278, 3) := by decide +kernel
theorem dX8_goOn_75 : decode cX8_goOn 75 = .ok (.iaload, 1) := by decide +kernel
theorem dX8_goOn_76 : decode cX8_goOn 76 = .ok (.putfield 284, 3) := by decide +kernel
theorem dX8_goOn_79 : decode cX8_goOn 79 = .ok (.aload_n 0, 1) := by decide +kernel
theorem dX8_goOn_80 : decode cX8_goOn 80 = .ok (.iconst 3, 1) := by decide +kernel
theorem dX8_goOn_81 : decode cX8_goOn 81 = .ok (.iload_n 1, 1) := by decide +kernel
theorem dX8_goOn_82 : decode cX8_goOn 82 = .ok (.imul, 1) := by decide +kernel
theorem dX8_goOn_83 : decode cX8_goOn 83 = .ok (.iconst 2, 1) := by decide +kernel
theorem dX8_goOn_84 : decode cX8_goOn 84 = .ok (.iadd, 1) := by decide +kernel
theorem dX8_goOn_85 : decode cX8_goOn 85 = .ok (.putfield 287, 3) := by decide +kernel
theorem dX8_goOn_88 : decode cX8_goOn 88 = .ok (.aload_n 0, 1) := by decide +kernel
theorem dX8_goOn_89 : decode cX8_goOn 89 = .ok (.bipush (-2), 2) := by decide +kernel
theorem dX8_goOn_91 : decode cX8_goOn 91 = .ok (.iconst 0, 1) := by decide +kernel
theorem dX8_goOn_92 : decode cX8_goOn 92 = .ok (.invokevirtual 290, 3) := by decide +kernel
theorem dX8_goOn_95 : decode cX8_goOn 95 = .ok (.bipush 6, 2) := by decide +kernel
theorem dX8_goOn_97 : decode cX8_goOn 97 = .ok (.ireturn, 1) := by decide +kernel
theorem dX8_goOn_98 : decode cX8_goOn 98 = .ok (.goto (-98), 3) := by decide +kernel
theorem dX8_goOn_101 : decode cX8_goOn 101 = .ok (.iconst 0, 1) := by decide +kernel
theorem dX8_goOn_102 : decode cX8_goOn 102 = .ok (.ireturn, 1) := by decide +kernel
set_option maxRecDepth 20000 in
theorem ggX8_variable_X8_areSame : GoodIn wsX8_variable wsX8_areSame := goodIn_r _ [10, 11, 12, 13, 9, 14, 15, 16, 17, 18, 19, 20, 43, 44, 45, 46, 47, 48, 49, 50, 51, 52, 53, 54, 55, 56, 57, 58, 59, 60, 61, 62, 63, 64, 65, 66, 67, 68, 69, 70, 71, 72, 73, 74, 75, 76, 77, 78, 79, 80, 81, 82, 83, 84, 85, 86, 87, 88, 89, 90, 91, 92, 93, 94, 95, 96, 97, 98, 99, 100] (by decide +kernel) (by decide +kernel)
set_option maxRecDepth 20000 in
theorem gX8_variable_X8_areSame : GoodIn wsX8_variable (wsV RX8 293 RX8 yX8_areSame wsX8_areSame) := goodIn_app (goodIn_of _ (by decide +kernel)) ggX8_variable_X8_areSame
set_option maxRecDepth 20000 in
theorem ggX8_variable_X8_tellNumber : GoodIn wsX8_variable wsX8_tellNumber := goodIn_r _ [24, 25, 26, 27, 9, 28, 29, 30, 43, 44, 45, 46, 47, 48, 49, 50, 51, 52, 53, 54, 55, 56, 57, 58, 59, 60, 61, 62, 63, 64, 65, 66, 67, 68, 69, 70, 71, 72, 73, 74, 75, 76, 77, 78, 79, 80, 81, 82, 83, 84, 85, 86, 87, 88, 89, 90, 91, 92, 93, 94, 95, 96, 97, 98, 99, 100] (by decide +kernel) (by decide +kernel)
set_option maxRecDepth 20000 in
theorem gX8_variable_X8_tellNumber : GoodIn wsX8_variable (wsV RX8 297 RX8 yX8_tellNumber wsX8_tellNumber) := goodIn_app (goodIn_of _ (by decide +kernel)) ggX8_variable_X8_tellNumber
set_option maxRecDepth 20000 in
theorem ggX8_variable_X8_goOn : GoodIn wsX8_variable wsX8_goOn := goodIn_r _ [34, 35, 36, 1, 37, 4, 38, 25, 26, 27, 9, 28, 29, 30, 39, 40, 41, 42, 43, 44, 45, 46, 47, 48, 49, 50, 51, 52, 53, 54, 55, 56, 57, 58, 59, 60, 61, 62, 63, 64, 65, 66, 67, 68, 69, 70, 71, 72, 73, 74, 75, 76, 77, 78, 79, 80, 81, 82, 83, 84, 85, 86, 87, 88, 89, 90, 91, 92, 93, 94, 95, 96, 97, 98, 99, 100] (by decide +kernel) (by decide +kernel)
set_option maxRecDepth 20000 in
theorem gX8_variable_X8_goOn : GoodIn wsX8_variable (wsV RX8 300 RX8 yX8_goOn wsX8_goOn) := goodIn_app (goodIn_of _ (by decide +kernel)) ggX8_variable_X8_goOn
theorem dX8_variable_0 : decode cX8_variable 0 = .ok (.aload_n 0, 1) := by decide +kernel
theorem dX8_variable_1 : decode cX8_variable 1 = .ok (.getfield 281, 3) := by decide +kernel
theorem dX8_variable_4 : decode cX8_variable 4 = .ok (.iconst 1, 1) := by decide +kernel
theorem dX8_variable_5 : decode cX8_variable 5 = .ok (.isub, 1) := by decide +kernel
theorem dX8_variable_6 : decode cX8_variable 6 = .ok (.istore_n 2, 1) := by decide +kernel
theorem dX8_variable_7 : decode cX8_variable 7 = .ok (.iload_n 2, 1) := by decide +kernel
theorem dX8_variable_8 : decode cX8_variable 8 = .ok (.ifCond .lt 42, 3) := by decide +kernel
theorem dX8_variable_11 : decode cX8_variable 11 = .ok (.aload_n 0, 1) := by decide +kernel
theorem dX8_variable_12 : decode cX8_variable 12 = .ok (.getfield 201, 3) := by decide +kernel
theorem dX8_variable_15 : decode cX8_variable 15 = .ok (.iload_n 2, 1) := by decide +kernel
theorem dX8_variable_16 : decode cX8_variable 16 = .ok (.iaload, 1) := by decide +kernel
theorem dX8_variable_17 : decode cX8_variable 17 = .ok (.iload_n 1, 1) := by decide +kernel
theorem dX8_variable_18 : decode cX8_variable 18 = .ok (.if_icmp .ne 26, 3) := by decide +kernel
theorem dX8_variable_21 : decode cX8_variable 21 = .ok (.aload_n 0, 1) := by decide +kernel
theorem dX8_variable_22 : decode cX8_variable 22 = .ok (.aload_n 0, 1) := by decide +kernel
theorem dX8_variable_23 : decode cX8_variable 23 = .ok (.getfield 204, 3) := by decide +kernel
theorem dX8_variable_26 : decode cX8_variable 26 = .ok (.iload_n 2, 1) := by decide +kernel
theorem dX8_variable_27 : decode cX8_variable 27 = .ok (.iaload, 1) := by decide +kernel
theorem dX8_variable_28 : decode cX8_variable 28 = .ok (.aload_n 0, 1) := by decide +kernel
theorem dX8_variable_29 : decode cX8_variable 29 = .ok (.getfield 284, 3) := by decide +kernel
theorem dX8_variable_32 : decode cX8_variable 32 = .ok (.aload_n 0, 1) := by decide +kernel
theorem dX8_variable_33 : decode cX8_variable 33 = .ok (.getfield 101, 3) := by decide +kernel
theorem dX8_variable_36 : decode cX8_variable 36 = .ok (.iload_n 1, 1) := by decide +kernel
theorem dX8_variable_37 : decode cX8_variable 37 = .ok (.iaload, 1) := by decide +kernel
theorem dX8_variable_38 : decode cX8_variable 38 = .ok (.invokevirtual 293, 3) := by decide +kernel
theorem dX8_variable_41 : decode cX8_variable 41 = .ok (.ifCond .ne 9, 3) := by decide +kernel
theorem dX8_variable_44 : decode cX8_variable 44 = .ok (.iinc 2 (-1), 3) := by decide +kernel
theorem dX8_variable_47 : decode cX8_variable 47 = .ok (.goto (-40), 3) := by decide +kernel
theorem dX8_variable_50 : decode cX8_variable 50 = .ok (.iload_n 2, 1) := by decide +kernel
theorem dX8_variable_51 : decode cX8_variable 51 = .ok (.ifCond .ge 5, 3) := by decide +kernel
theorem dX8_variable_54 : decode cX8_variable 54 = .ok (.iconst 4, 1) := by decide +kernel
theorem dX8_variable_55 : decode cX8_variable 55 = .ok (.ireturn, 1) := by decide +kernel
theorem dX8_variable_56 : decode cX8_variable 56 = .ok (.aload_n 0, 1) := by decide +kernel
theorem dX8_variable_57 : decode cX8_variable 57 = .ok (.aload_n 0, 1) := by decide +kernel
theorem dX8_variable_58 : decode cX8_variable 58 = .ok (.getfield 281, 3) := by decide +kernel
theorem dX8_variable_61 : decode cX8_variable 61 = .ok (.iconst 1, 1) := by decide +kernel
theorem dX8_variable_62 : decode cX8_variable 62 = .ok (.isub, 1) := by decide +kernel
theorem dX8_variable_63 : decode cX8_variable 63 = .ok (.iload_n 2, 1) := by decide +kernel
theorem dX8_variable_64 : decode cX8_variable 64 = .ok (.isub, 1) := by decide +kernel
theorem dX8_variable_65 : decode cX8_variable 65 = .ok (.invokevirtual 297, 3) := by decide +kernel
theorem dX8_variable_68 : decode cX8_variable 68 = .ok (.aload_n 0, 1) := by decide +kernel
theorem dX8_variable_69 : decode cX8_variable 69 = .ok (.invokevirtual 300, 3) := by decide +kernel
theorem dX8_variable_72 : decode cX8_variable 72 = .ok (.ireturn, 1) := by decide +kernel
set_option maxRecDepth 20000 in
theorem ggX8_atLambda_X8_variable : GoodIn wsX8_atLambda wsX8_variable := goodIn_r _ [11, 3, 2, 4, 5, 12, 13, 14, 15, 10, 16, 17, 18, 19, 20, 21, 22, 23, 24, 25, 26, 27, 28, 29, 30, 31, 32, 33, 34, 1, 35, 36, 37, 38, 39, 40, 41, 42, 6, 43, 44, 45, 46, 47, 48, 49, 50, 51, 52, 53, 54, 55, 56, 57, 58, 59, 60, 61, 62, 63, 64, 65, 66, 67, 68, 69, 70, 71, 72, 73, 74, 75, 76, 77, 78, 79, 80, 81, 82, 83, 84, 85, 86, 87, 88, 89, 90, 91, 92, 93, 94, 95, 96, 97, 98, 99, 100, 101, 102, 103, 104] (by decide +kernel) (by decide +kernel)
set_option maxRecDepth 20000 in
theorem gX8_atLambda_X8_variable : GoodIn wsX8_atLambda (wsV RX8 303 RX8 yX8_variable wsX8_variable) := goodIn_app (goodIn_of _ (by decide +kernel)) ggX8_atLambda_X8_variable
set_option maxRecDepth 20000 in
theorem ggX8_atLambda_X8_tell : GoodIn wsX8_atLambda wsX8_tell := goodIn_r _ [34, 1, 35, 47, 48, 49, 50, 51, 52, 53, 54, 55, 56, 57, 58, 59, 60, 61, 62, 63, 64, 65, 66, 67, 68, 69, 70, 71, 72, 73, 74, 75, 76, 77, 78, 79, 80, 81, 82, 83, 84, 85, 86, 87, 88, 89, 90, 91, 92, 93, 94, 95, 96, 97, 98, 99, 100, 101, 102, 103, 104] (by decide +kernel) (by decide +kernel)
set_option maxRecDepth 20000 in
theorem gX8_atLambda_X8_tell : GoodIn wsX8_atLambda (wsV RX8 275 RX8 yX8_tell wsX8_tell) := goodIn_app (goodIn_of _ (by decide +kernel)) ggX8_atLambda_X8_tell
set_option maxRecDepth 20000 in
theorem ggX8_atLambda_X8_after : GoodIn wsX8_atLambda wsX8_after := goodIn_r _ [46, 41, 40, 42, 47, 48, 49, 50, 51, 52, 53, 54, 55, 56, 57, 58, 59, 60, 61, 62, 63, 64, 65, 66, 67, 68, 69, 70, 71, 72, 73, 74, 75, 76, 77, 78, 79, 80, 81, 82, 83, 84, 85, 86, 87, 88, 89, 90, 91, 92, 93, 94, 95, 96, 97, 98, 99, 100, 101, 102, 103, 104] (by decide +kernel) (by decide +kernel)
set_option maxRecDepth 20000 in
theorem gX8_atLambda_X8_after : GoodIn wsX8_atLambda (wsV RX8 290 RX8 yX8_after wsX8_after) := goodIn_app (goodIn_of _ (by decide +kernel)) ggX8_atLambda_X8_after
theorem dX8_atLambda_0 : decode cX8_atLambda 0 = .ok (.iload_n 2, 1) := by decide +kernel
theorem dX8_atLambda_1 : decode cX8_atLambda 1 = .ok (.iconst 2, 1) := by decide +kernel
theorem dX8_atLambda_2 : decode cX8_atLambda 2 = .ok (.if_icmp .ne 9, 3) := by decide +kernel
theorem dX8_atLambda_5 : decode cX8_atLambda 5 = .ok (.aload_n 0, 1) := by decide +kernel
theorem dX8_atLambda_6 : decode cX8_atLambda 6 = .ok (.iload_n 1, 1) := by decide +kernel
theorem dX8_atLambda_7 : decode cX8_atLambda 7 = .ok (.invokevirtual 303, 3) := by decide +kernel
theorem dX8_atLambda_10 : decode cX8_atLambda 10 = .ok (.ireturn, 1) := by decide +kernel
theorem dX8_atLambda_11 : decode cX8_atLambda 11 = .ok (.iload_n 2, 1) := by decide +kernel
theorem dX8_atLambda_12 : decode cX8_atLambda 12 = .ok (.iconst 1, 1) := by decide +kernel
theorem dX8_atLambda_13 : decode cX8_atLambda 13 = .ok (.if_icmp .ne 5, 3) := by decide +kernel
theorem dX8_atLambda_16 : decode cX8_atLambda 16 = .ok (.iconst 4, 1) := by decide +kernel
theorem dX8_atLambda_17 : decode cX8_atLambda 17 = .ok (.ireturn, 1) := by decide +kernel
theorem dX8_atLambda_18 : decode cX8_atLambda 18 = .ok (.aload_n 0, 1) := by decide +kernel
theorem dX8_atLambda_19 : decode cX8_atLambda 19 = .ok (.bipush 92, 2) := by decide +kernel
theorem dX8_atLambda_21 : decode cX8_atLambda 21 = .ok (.invokevirtual 275, 3) := by decide +kernel
theorem dX8_atLambda_24 : decode cX8_atLambda 24 = .ok (.aload_n 0, 1) := by decide +kernel
theorem dX8_atLambda_25 : decode cX8_atLambda 25 = .ok (.getfield 272, 3) := by decide +kernel
theorem dX8_atLambda_28 : decode cX8_atLambda 28 = .ok (.sipush 4000, 3) := by decide +kernel
theorem dX8_atLambda_31 : decode cX8_atLambda 31 = .ok (.if_icmp .le 5, 3) := by decide +kernel
theorem dX8_atLambda_34 : decode cX8_atLambda 34 = .ok (.iconst 3, 1) := by decide +kernel
theorem dX8_atLambda_35 : decode cX8_atLambda 35 = .ok (.ireturn, 1) := by decide +kernel
theorem dX8_atLambda_36 : decode cX8_atLambda 36 = .ok (.aload_n 0, 1) := by decide +kernel
theorem dX8_atLambda_37 : decode cX8_atLambda 37 = .ok (.getfield 201, 3) := by decide +kernel
theorem dX8_atLambda_40 : decode cX8_atLambda 40 = .ok (.aload_n 0, 1) := by decide +kernel
theorem dX8_atLambda_41 : decode cX8_atLambda 41 = .ok (.getfield 281, 3) := by decide +kernel
theorem dX8_atLambda_44 : decode cX8_atLambda 44 = .ok (.iload_n 1, 1) := by decide +kernel
theorem dX8_atLambda_45 : decode cX8_atLambda 45 = .ok (.iastore, 1) := by decide +kernel
theorem dX8_atLambda_46 : decode cX8_atLambda 46 = .ok (.aload_n 0, 1) := by decide +kernel
theorem dX8_atLambda_47 : decode cX8_atLambda 47 = .ok (.getfield 204, 3) := by decide +kernel
theorem dX8_atLambda_50 : decode cX8_atLambda 50 = .ok (.aload_n 0, 1) := by decide +kernel
theorem dX8_atLambda_51 : decode cX8_atLambda 51 = .ok (.getfield 281, 3) := by decide +kernel
theorem dX8_atLambda_54 : decode cX8_atLambda 54 = .ok (.aload_n 0, 1) := by decide +kernel
theorem dX8_atLambda_55 : decode cX8_atLambda 55 = .ok (.getfield 284, 3) := by decide +kernel
theorem dX8_atLambda_58 : decode cX8_atLambda 58 = .ok (.iastore, 1) := by decide +kernel
theorem dX8_atLambda_59 : decode cX8_atLambda 59 = .ok (.aload_n 0, 1) := by decide +kernel
theorem dX8_atLambda_60 : decode cX8_atLambda 60 = .ok (.dup, 1) := by decide +kernel
theorem dX8_atLambda_61 : decode cX8_atLambda 61 = .ok (.getfield 281, 3) := by decide +kernel
theorem dX8_atLambda_64 : decode cX8_atLambda 64 = .ok (.iconst 1, 1) := by decide +kernel
theorem dX8_atLambda_65 : decode cX8_atLambda 65 = .ok (.iadd, 1) := by decide +kernel
theorem dX8_atLambda_66 : decode cX8_atLambda 66 = .ok (.putfield 281, 3) := by decide +kernel
theorem dX8_atLambda_69 : decode cX8_atLambda 69 = .ok (.aload_n 0, 1) := by decide +kernel
theorem dX8_atLambda_70 : decode cX8_atLambda 70 = .ok (.iconst (-1), 1) := by decide +kernel
theorem dX8_atLambda_71 : decode cX8_atLambda 71 = .ok (.iconst 0, 1) := by decide +kernel
theorem dX8_atLambda_72 : decode cX8_atLambda 72 = .ok (.invokevirtual 290, 3) := by decide +kernel
theorem dX8_atLambda_75 : decode cX8_atLambda 75 = .ok (.aload_n 0, 1) := by decide +kernel
theorem dX8_atLambda_76 : decode cX8_atLambda 76 = .ok (.iconst 3, 1) := by decide +kernel
theorem dX8_atLambda_77 : decode cX8_atLambda 77 = .ok (.iload_n 1, 1) := by decide +kernel
theorem dX8_atLambda_78 : decode cX8_atLambda 78 = .ok (.imul, 1) := by decide +kernel
theorem dX8_atLambda_79 : decode cX8_atLambda 79 = .ok (.iconst 1, 1) := by decide +kernel
theorem dX8_atLambda_80 : decode cX8_atLambda 80 = .ok (.iadd, 1) := by decide +kernel
theorem dX8_atLambda_81 : decode cX8_atLambda 81 = .ok (.putfield 287, 3) := by decide +kernel
theorem dX8_atLambda_84 : decode cX8_atLambda 84 = .ok (.bipush 6, 2) := by decide +kernel
theorem dX8_atLambda_86 : decode cX8_atLambda 86 = .ok (.ireturn, 1) := by decide +kernel
set_option maxRecDepth 20000 in
theorem ggX8_atApplication_X8_tell : GoodIn wsX8_atApplication wsX8_tell := goodIn_r _ [8, 1, 9, 17, 18, 19, 20, 21, 22, 23, 24, 25, 26, 27, 28, 29, 30, 31, 32, 33, 34, 35, 36, 37, 38, 39, 40, 41, 42, 43, 44, 45, 46, 47, 48, 49, 50, 51, 52, 53, 54, 55, 56, 57, 58, 59, 60, 61, 62, 63, 64, 65, 66, 67, 68, 69, 70, 71, 72, 73, 74] (by decide +kernel) (by decide +kernel)
set_option maxRecDepth 20000 in
theorem gX8_atApplication_X8_tell : GoodIn wsX8_atApplication (wsV RX8 275 RX8 yX8_tell wsX8_tell) := goodIn_app (goodIn_of _ (by decide +kernel)) ggX8_atApplication_X8_tell
set_option maxRecDepth 20000 in
theorem ggX8_atApplication_X8_after : GoodIn wsX8_atApplication wsX8_after := goodIn_r _ [13, 14, 15, 16, 17, 18, 19, 20, 21, 22, 23, 24, 25, 26, 27, 28, 29, 30, 31, 32, 33, 34, 35, 36, 37, 38, 39, 40, 41, 42, 43, 44, 45, 46, 47, 48, 49, 50, 51, 52, 53, 54, 55, 56, 57, 58, 59, 60, 61, 62, 63, 64, 65, 66, 67, 68, 69, 70, 71, 72, 73, 74] (by decide +kernel) (by decide +kernel)
set_option maxRecDepth 20000 in
theorem gX8_atApplication_X8_after : GoodIn wsX8_atApplication (wsV RX8 290 RX8 yX8_after wsX8_after) := goodIn_app (goodIn_of _ (by decide +kernel)) ggX8_atApplication_X8_after
theorem dX8_atApplication_0 : decode cX8_atApplication 0 = .ok (.iload_n 2, 1) := by decide +kernel
theorem dX8_atApplication_1 : decode cX8_atApplication 1 = .ok (.iconst 1, 1) := by decide +kernel
theorem dX8_atApplication_2 : decode cX8_atApplication 2 = .ok (.if_icmp .eq 5, 3) := by decide +kernel
theorem dX8_atApplication_5 : decode cX8_atApplication 5 = .ok (.iconst 4, 1) := by decide +kernel
theorem dX8_atApplication_6 : decode cX8_atApplication 6 = .ok (.ireturn, 1) := by decide +kernel
theorem dX8_atApplication_7 : decode cX8_atApplication 7 = .ok (.aload_n 0, 1) := by decide +kernel
theorem dX8_atApplication_8 : decode cX8_atApplication 8 = .ok (.bipush 40, 2) := by decide +kernel
theorem dX8_atApplication_10 : decode cX8_atApplication 10 = .ok (.invokevirtual 275, 3) := by decide +kernel
theorem dX8_atApplication_13 : decode cX8_atApplication 13 = .ok (.aload_n 0, 1) := by decide +kernel
theorem dX8_atApplication_14 : decode cX8_atApplication 14 = .ok (.getfield 272, 3) := by decide +kernel
theorem dX8_atApplication_17 : decode cX8_atApplication 17 = .ok (.sipush 4000, 3) := by decide +kernel
theorem dX8_atApplication_20 : decode cX8_atApplication 20 = .ok (.if_icmp .le 5, 3) := by decide +kernel
theorem dX8_atApplication_23 : decode cX8_atApplication 23 = .ok (.iconst 3, 1) := by decide +kernel
theorem dX8_atApplication_24 : decode cX8_atApplication 24 = .ok (.ireturn, 1) := by decide +kernel
theorem dX8_atApplication_25 : decode cX8_atApplication 25 = .ok (.aload_n 0, 1) := by decide +kernel
theorem dX8_atApplication_26 : decode cX8_atApplication 26 = .ok (.iload_n 1, 1) := by decide +kernel
theorem dX8_atApplication_27 : decode cX8_atApplication 27 = .ok (.aload_n 0, 1) := by decide +kernel
theorem dX8_atApplication_28 : decode cX8_atApplication 28 = .ok (.getfield 284, 3) := by decide +kernel
theorem dX8_atApplication_31 : decode cX8_atApplication 31 = .ok (.invokevirtual 290, 3) := by decide +kernel
theorem dX8_atApplication_34 : decode cX8_atApplication 34 = .ok (.aload_n 0, 1) := by decide +kernel
theorem dX8_atApplication_35 : decode cX8_atApplication 35 = .ok (.iconst 3, 1) := by decide +kernel
theorem dX8_atApplication_36 : decode cX8_atApplication 36 = .ok (.iload_n 1, 1) := by decide +kernel
theorem dX8_atApplication_37 : decode cX8_atApplication 37 = .ok (.imul, 1) := by decide +kernel
theorem dX8_atApplication_38 : decode cX8_atApplication 38 = .ok (.putfield 287, 3) := by decide +kernel
theorem dX8_atApplication_41 : decode cX8_atApplication 41 = .ok (.bipush 6, 2) := by decide +kernel
theorem dX8_atApplication_43 : decode cX8_atApplication 43 = .ok (.ireturn, 1) := by decide +kernel
set_option maxRecDepth 20000 in
theorem ggX8_atFan_X8_behind : GoodIn wsX8_atFan wsX8_behind := goodIn_r _ [10, 11, 40, 41, 42, 43, 44, 45, 46, 47, 48, 49, 50, 51, 52, 53, 54, 55, 56, 57, 58, 59, 60, 61, 62, 63, 64, 65, 66, 67, 68, 69, 70, 71, 72, 73, 74, 75, 76, 77, 78, 79, 80, 81, 82, 83, 84, 85, 86, 87, 88, 89, 90, 91, 92, 93, 94, 95, 96, 97] (by decide +kernel) (by decide +kernel)
set_option maxRecDepth 20000 in
theorem gX8_atFan_X8_behind : GoodIn wsX8_atFan (wsV RX8 306 RX8 yX8_behind wsX8_behind) := goodIn_app (goodIn_of _ (by decide +kernel)) ggX8_atFan_X8_behind
set_option maxRecDepth 20000 in
theorem ggX8_atFan_X8_head : GoodIn wsX8_atFan wsX8_head := goodIn_r _ [15, 16, 40, 41, 42, 43, 44, 45, 46, 47, 48, 49, 50, 51, 52, 53, 54, 55, 56, 57, 58, 59, 60, 61, 62, 63, 64, 65, 66, 67, 68, 69, 70, 71, 72, 73, 74, 75, 76, 77, 78, 79, 80, 81, 82, 83, 84, 85, 86, 87, 88, 89, 90, 91, 92, 93, 94, 95, 96, 97] (by decide +kernel) (by decide +kernel)
set_option maxRecDepth 20000 in
theorem gX8_atFan_X8_head : GoodIn wsX8_atFan (wsV RX8 263 RX8 yX8_head wsX8_head) := goodIn_app (goodIn_of _ (by decide +kernel)) ggX8_atFan_X8_head
set_option maxRecDepth 20000 in
theorem ggX8_atFan_X8_level : GoodIn wsX8_atFan wsX8_level := goodIn_r _ [20, 21, 22, 4, 5, 23, 24, 25, 40, 41, 42, 43, 44, 45, 46, 47, 48, 49, 50, 51, 52, 53, 54, 55, 56, 57, 58, 59, 60, 61, 62, 63, 64, 65, 66, 67, 68, 69, 70, 71, 72, 73, 74, 75, 76, 77, 78, 79, 80, 81, 82, 83, 84, 85, 86, 87, 88, 89, 90, 91, 92, 93, 94, 95, 96, 97] (by decide +kernel) (by decide +kernel)
set_option maxRecDepth 20000 in
theorem gX8_atFan_X8_level : GoodIn wsX8_atFan (wsV RX8 309 RX8 yX8_level wsX8_level) := goodIn_app (goodIn_of _ (by decide +kernel)) ggX8_atFan_X8_level
set_option maxRecDepth 20000 in
theorem ggX8_atFan_X8_tail : GoodIn wsX8_atFan wsX8_tail := goodIn_r _ [29, 11, 40, 41, 42, 43, 44, 45, 46, 47, 48, 49, 50, 51, 52, 53, 54, 55, 56, 57, 58, 59, 60, 61, 62, 63, 64, 65, 66, 67, 68, 69, 70, 71, 72, 73, 74, 75, 76, 77, 78, 79, 80, 81, 82, 83, 84, 85, 86, 87, 88, 89, 90, 91, 92, 93, 94, 95, 96, 97] (by decide +kernel) (by decide +kernel)
set_option maxRecDepth 20000 in
theorem gX8_atFan_X8_tail : GoodIn wsX8_atFan (wsV RX8 266 RX8 yX8_tail wsX8_tail) := goodIn_app (goodIn_of _ (by decide +kernel)) ggX8_atFan_X8_tail
set_option maxRecDepth 20000 in
theorem ggX8_atFan_X8_list : GoodIn wsX8_atFan wsX8_list := goodIn_r _ [33, 16, 34, 11, 40, 41, 42, 43, 44, 45, 46, 47, 48, 49, 50, 51, 52, 53, 54, 55, 56, 57, 58, 59, 60, 61, 62, 63, 64, 65, 66, 67, 68, 69, 70, 71, 72, 73, 74, 75, 76, 77, 78, 79, 80, 81, 82, 83, 84, 85, 86, 87, 88, 89, 90, 91, 92, 93, 94, 95, 96, 97] (by decide +kernel) (by decide +kernel)
set_option maxRecDepth 20000 in
theorem gX8_atFan_X8_list : GoodIn wsX8_atFan (wsV RX8 269 RX8 yX8_list wsX8_list) := goodIn_app (goodIn_of _ (by decide +kernel)) ggX8_atFan_X8_list
set_option maxRecDepth 20000 in
theorem ggX8_atFan_X8_with : GoodIn wsX8_atFan wsX8_with := goodIn_r _ [38, 39, 12, 13, 14, 9, 15, 16, 26, 27, 28, 29, 11, 30, 31, 32, 33, 34, 40, 41, 42, 43, 44, 45, 46, 47, 48, 49, 50, 51, 52, 53, 54, 55, 56, 57, 58, 59, 60, 61, 62, 63, 64, 65, 66, 67, 68, 69, 70, 71, 72, 73, 74, 75, 76, 77, 78, 79, 80, 81, 82, 83, 84, 85, 86, 87, 88, 89, 90, 91, 92, 93, 94, 95, 96, 97] (by decide +kernel) (by decide +kernel)
set_option maxRecDepth 20000 in
theorem gX8_atFan_X8_with : GoodIn wsX8_atFan (wsV RX8 312 RX8 yX8_with wsX8_with) := goodIn_app (goodIn_of _ (by decide +kernel)) ggX8_atFan_X8_with
theorem dX8_atFan_0 : decode cX8_atFan 0 = .ok (.aload_n 0, 1) := by decide +kernel
theorem dX8_atFan_1 : decode cX8_atFan 1 = .ok (.getfield 101, 3) := by decide +kernel
theorem dX8_atFan_4 : decode cX8_atFan 4 = .ok (.iload_n 1, 1) := by decide +kernel
theorem dX8_atFan_5 : decode cX8_atFan 5 = .ok (.iaload, 1) := by decide +kernel
theorem dX8_atFan_6 : decode cX8_atFan 6 = .ok (.istore_n 3, 1) := by decide +kernel
theorem dX8_atFan_7 : decode cX8_atFan 7 = .ok (.aload_n 0, 1) := by decide +kernel
theorem dX8_atFan_8 : decode cX8_atFan 8 = .ok (.aload_n 0, 1) := by decide +kernel
theorem dX8_atFan_9 : decode cX8_atFan 9 = .ok (.getfield 284, 3) := by decide +kernel
theorem dX8_atFan_12 : decode cX8_atFan 12 = .ok (.iload_n 3, 1) := by decide +kernel
theorem dX8_atFan_13 : decode cX8_atFan 13 = .ok (.invokevirtual 306, 3) := by decide +kernel
theorem dX8_atFan_16 : decode cX8_atFan 16 = .ok (.istore 4, 2) := by decide +kernel
theorem dX8_atFan_18 : decode cX8_atFan 18 = .ok (.aload_n 0, 1) := by decide +kernel
theorem dX8_atFan_19 : decode cX8_atFan 19 = .ok (.iload 4, 2) := by decide +kernel
theorem dX8_atFan_21 : decode cX8_atFan 21 = .ok (.invokevirtual 263, 3) := by decide +kernel
theorem dX8_atFan_24 : decode cX8_atFan 24 = .ok (.istore 5, 2) := by decide +kernel
theorem dX8_atFan_26 : decode cX8_atFan 26 = .ok (.iload_n 2, 1) := by decide +kernel
theorem dX8_atFan_27 : decode cX8_atFan 27 = .ok (.ifCond .le 53, 3) := by decide +kernel
theorem dX8_atFan_30 : decode cX8_atFan 30 = .ok (.aload_n 0, 1) := by decide +kernel
theorem dX8_atFan_31 : decode cX8_atFan 31 = .ok (.aload_n 0, 1) := by decide +kernel
theorem dX8_atFan_32 : decode cX8_atFan 32 = .ok (.aload_n 0, 1) := by decide +kernel
theorem dX8_atFan_33 : decode cX8_atFan 33 = .ok (.getfield 284, 3) := by decide +kernel
theorem dX8_atFan_36 : decode cX8_atFan 36 = .ok (.iload_n 3, 1) := by decide +kernel
theorem dX8_atFan_37 : decode cX8_atFan 37 = .ok (.aload_n 0, 1) := by decide +kernel
theorem dX8_atFan_38 : decode cX8_atFan 38 = .ok (.aload_n 0, 1) := by decide +kernel
theorem dX8_atFan_39 : decode cX8_atFan 39 = .ok (.iload_n 2, 1) := by decide +kernel
theorem dX8_atFan_40 : decode cX8_atFan 40 = .ok (.iconst 1, 1) := by decide +kernel
theorem dX8_atFan_41 : decode cX8_atFan 41 = .ok (.if_icmp .ne 7, 3) := by decide +kernel
theorem dX8_atFan_44 : decode cX8_atFan 44 = .ok (.iconst 1, 1) := by decide +kernel
theorem dX8_atFan_45 : decode cX8_atFan 45 = .ok (.goto 4, 3) := by decide +kernel
theorem dX8_atFan_48 : decode cX8_atFan 48 = .ok (.iconst 2, 1) := by decide +kernel
theorem dX8_atFan_49 : decode cX8_atFan 49 = .ok (.iload 5, 2) := by decide +kernel
theorem dX8_atFan_51 : decode cX8_atFan 51 = .ok (.iconst 0, 1) := by decide +kernel
theorem dX8_atFan_52 : decode cX8_atFan 52 = .ok (.invokevirtual 309, 3) := by decide +kernel
theorem dX8_atFan_55 : decode cX8_atFan 55 = .ok (.aload_n 0, 1) := by decide +kernel
theorem dX8_atFan_56 : decode cX8_atFan 56 = .ok (.iload 4, 2) := by decide +kernel
theorem dX8_atFan_58 : decode cX8_atFan 58 = .ok (.invokevirtual 266, 3) := by decide +kernel
theorem dX8_atFan_61 : decode cX8_atFan 61 = .ok (.invokevirtual 269, 3) := by decide +kernel
theorem dX8_atFan_64 : decode cX8_atFan 64 = .ok (.invokevirtual 312, 3) := by decide +kernel
theorem dX8_atFan_67 : decode cX8_atFan 67 = .ok (.putfield 284, 3) := by decide +kernel
theorem dX8_atFan_70 : decode cX8_atFan 70 = .ok (.aload_n 0, 1) := by decide +kernel
theorem dX8_atFan_71 : decode cX8_atFan 71 = .ok (.iconst 3, 1) := by decide +kernel
theorem dX8_atFan_72 : decode cX8_atFan 72 = .ok (.iload_n 1, 1) := by decide +kernel
theorem dX8_atFan_73 : decode cX8_atFan 73 = .ok (.imul, 1) := by decide +kernel
theorem dX8_atFan_74 : decode cX8_atFan 74 = .ok (.putfield 287, 3) := by decide +kernel
theorem dX8_atFan_77 : decode cX8_atFan 77 = .ok (.bipush 6, 2) := by decide +kernel
theorem dX8_atFan_79 : decode cX8_atFan 79 = .ok (.ireturn, 1) := by decide +kernel
theorem dX8_atFan_80 : decode cX8_atFan 80 = .ok (.iload 5, 2) := by decide +kernel
theorem dX8_atFan_82 : decode cX8_atFan 82 = .ok (.ifCond .ne 7, 3) := by decide +kernel
theorem dX8_atFan_85 : decode cX8_atFan 85 = .ok (.iconst 0, 1) := by decide +kernel
theorem dX8_atFan_86 : decode cX8_atFan 86 = .ok (.goto 10, 3) := by decide +kernel
theorem dX8_atFan_89 : decode cX8_atFan 89 = .ok (.aload_n 0, 1) := by decide +kernel
theorem dX8_atFan_90 : decode cX8_atFan 90 = .ok (.getfield 173, 3) := by decide +kernel
theorem dX8_atFan_93 : decode cX8_atFan 93 = .ok (.iload 5, 2) := by decide +kernel
theorem dX8_atFan_95 : decode cX8_atFan 95 = .ok (.iaload, 1) := by decide +kernel
theorem dX8_atFan_96 : decode cX8_atFan 96 = .ok (.istore 6, 2) := by decide +kernel
theorem dX8_atFan_98 : decode cX8_atFan 98 = .ok (.iload 6, 2) := by decide +kernel
theorem dX8_atFan_100 : decode cX8_atFan 100 = .ok (.iconst 1, 1) := by decide +kernel
theorem dX8_atFan_101 : decode cX8_atFan 101 = .ok (.if_icmp .eq 11, 3) := by decide +kernel
theorem dX8_atFan_104 : decode cX8_atFan 104 = .ok (.iload 6, 2) := by decide +kernel
theorem dX8_atFan_106 : decode cX8_atFan 106 = .ok (.iconst 2, 1) := by decide +kernel
theorem dX8_atFan_107 : decode cX8_atFan 107 = .ok (.if_icmp .eq 5, 3) := by decide +kernel
theorem dX8_atFan_110 : decode cX8_atFan 110 = .ok (.iconst 4, 1) := by decide +kernel
theorem dX8_atFan_111 : decode cX8_atFan 111 = .ok (.ireturn, 1) := by decide +kernel
theorem dX8_atFan_112 : decode cX8_atFan 112 = .ok (.aload_n 0, 1) := by decide +kernel
theorem dX8_atFan_113 : decode cX8_atFan 113 = .ok (.aload_n 0, 1) := by decide +kernel
theorem dX8_atFan_114 : decode cX8_atFan 114 = .ok (.aload_n 0, 1) := by decide +kernel
theorem dX8_atFan_115 : decode cX8_atFan 115 = .ok (.getfield 284, 3) := by decide +kernel
theorem dX8_atFan_118 : decode cX8_atFan 118 = .ok (.iload_n 3, 1) := by decide +kernel
theorem dX8_atFan_119 : decode cX8_atFan 119 = .ok (.aload_n 0, 1) := by decide +kernel
theorem dX8_atFan_120 : decode cX8_atFan 120 = .ok (.aload_n 0, 1) := by decide +kernel
theorem dX8_atFan_121 : decode cX8_atFan 121 = .ok (.getfield 176, 3) := by decide +kernel
theorem dX8_atFan_124 : decode cX8_atFan 124 = .ok (.iload 5, 2) := by decide +kernel
theorem dX8_atFan_126 : decode cX8_atFan 126 = .ok (.iaload, 1) := by decide +kernel
theorem dX8_atFan_127 : decode cX8_atFan 127 = .ok (.aload_n 0, 1) := by decide +kernel
theorem dX8_atFan_128 : decode cX8_atFan 128 = .ok (.iload 4, 2) := by decide +kernel
theorem dX8_atFan_130 : decode cX8_atFan 130 = .ok (.invokevirtual 266, 3) := by decide +kernel
theorem dX8_atFan_133 : decode cX8_atFan 133 = .ok (.invokevirtual 269, 3) := by decide +kernel
theorem dX8_atFan_136 : decode cX8_atFan 136 = .ok (.invokevirtual 312, 3) := by decide +kernel
theorem dX8_atFan_139 : decode cX8_atFan 139 = .ok (.putfield 284, 3) := by decide +kernel
theorem dX8_atFan_142 : decode cX8_atFan 142 = .ok (.aload_n 0, 1) := by decide +kernel
theorem dX8_atFan_143 : decode cX8_atFan 143 = .ok (.iconst 3, 1) := by decide +kernel
theorem dX8_atFan_144 : decode cX8_atFan 144 = .ok (.iload_n 1, 1) := by decide +kernel
theorem dX8_atFan_145 : decode cX8_atFan 145 = .ok (.imul, 1) := by decide +kernel
theorem dX8_atFan_146 : decode cX8_atFan 146 = .ok (.iload 6, 2) := by decide +kernel
theorem dX8_atFan_148 : decode cX8_atFan 148 = .ok (.iadd, 1) := by decide +kernel
theorem dX8_atFan_149 : decode cX8_atFan 149 = .ok (.putfield 287, 3) := by decide +kernel
theorem dX8_atFan_152 : decode cX8_atFan 152 = .ok (.bipush 6, 2) := by decide +kernel
theorem dX8_atFan_154 : decode cX8_atFan 154 = .ok (.ireturn, 1) := by decide +kernel
set_option maxRecDepth 20000 in
theorem ggX8_atOther_X8_behind : GoodIn wsX8_atOther wsX8_behind := goodIn_r _ [12, 13, 41, 42, 43, 44, 45, 46, 47, 48, 49, 50, 51, 52, 53, 54, 55, 56, 57, 58, 59, 60, 61, 62, 63, 64, 65, 66, 67, 68, 69, 70, 71, 72, 73, 74, 75, 76, 77, 78, 79, 80, 81, 82, 83, 84, 85, 86, 87, 88, 89, 90, 91, 92, 93, 94, 95, 96, 97, 98] (by decide +kernel) (by decide +kernel)
set_option maxRecDepth 20000 in
theorem gX8_atOther_X8_behind : GoodIn wsX8_atOther (wsV RX8 306 RX8 yX8_behind wsX8_behind) := goodIn_app (goodIn_of _ (by decide +kernel)) ggX8_atOther_X8_behind
set_option maxRecDepth 20000 in
theorem ggX8_atOther_X8_head : GoodIn wsX8_atOther wsX8_head := goodIn_r _ [17, 18, 41, 42, 43, 44, 45, 46, 47, 48, 49, 50, 51, 52, 53, 54, 55, 56, 57, 58, 59, 60, 61, 62, 63, 64, 65, 66, 67, 68, 69, 70, 71, 72, 73, 74, 75, 76, 77, 78, 79, 80, 81, 82, 83, 84, 85, 86, 87, 88, 89, 90, 91, 92, 93, 94, 95, 96, 97, 98] (by decide +kernel) (by decide +kernel)
set_option maxRecDepth 20000 in
theorem gX8_atOther_X8_head : GoodIn wsX8_atOther (wsV RX8 263 RX8 yX8_head wsX8_head) := goodIn_app (goodIn_of _ (by decide +kernel)) ggX8_atOther_X8_head
set_option maxRecDepth 20000 in
theorem ggX8_atOther_X8_tail : GoodIn wsX8_atOther wsX8_tail := goodIn_r _ [22, 13, 41, 42, 43, 44, 45, 46, 47, 48, 49, 50, 51, 52, 53, 54, 55, 56, 57, 58, 59, 60, 61, 62, 63, 64, 65, 66, 67, 68, 69, 70, 71, 72, 73, 74, 75, 76, 77, 78, 79, 80, 81, 82, 83, 84, 85, 86, 87, 88, 89, 90, 91, 92, 93, 94, 95, 96, 97, 98] (by decide +kernel) (by decide +kernel)
set_option maxRecDepth 20000 in
theorem gX8_atOther_X8_tail : GoodIn wsX8_atOther (wsV RX8 266 RX8 yX8_tail wsX8_tail) := goodIn_app (goodIn_of _ (by decide +kernel)) ggX8_atOther_X8_tail
set_option maxRecDepth 20000 in
theorem ggX8_atOther_X8_list : GoodIn wsX8_atOther wsX8_list := goodIn_r _ [26, 18, 27, 13, 41, 42, 43, 44, 45, 46, 47, 48, 49, 50, 51, 52, 53, 54, 55, 56, 57, 58, 59, 60, 61, 62, 63, 64, 65, 66, 67, 68, 69, 70, 71, 72, 73, 74, 75, 76, 77, 78, 79, 80, 81, 82, 83, 84, 85, 86, 87, 88, 89, 90, 91, 92, 93, 94, 95, 96, 97, 98] (by decide +kernel) (by decide +kernel)
set_option maxRecDepth 20000 in
theorem gX8_atOther_X8_list : GoodIn wsX8_atOther (wsV RX8 269 RX8 yX8_list wsX8_list) := goodIn_app (goodIn_of _ (by decide +kernel)) ggX8_atOther_X8_list
set_option maxRecDepth 20000 in
theorem ggX8_atOther_X8_with : GoodIn wsX8_atOther wsX8_with := goodIn_r _ [31, 32, 14, 15, 16, 11, 17, 18, 19, 20, 21, 22, 13, 23, 24, 25, 26, 27, 41, 42, 43, 44, 45, 46, 47, 48, 49, 50, 51, 52, 53, 54, 55, 56, 57, 58, 59, 60, 61, 62, 63, 64, 65, 66, 67, 68, 69, 70, 71, 72, 73, 74, 75, 76, 77, 78, 79, 80, 81, 82, 83, 84, 85, 86, 87, 88, 89, 90, 91, 92, 93, 94, 95, 96, 97, 98] (by decide +kernel) (by decide +kernel)
set_option maxRecDepth 20000 in
theorem gX8_atOther_X8_with : GoodIn wsX8_atOther (wsV RX8 312 RX8 yX8_with wsX8_with) := goodIn_app (goodIn_of _ (by decide +kernel)) ggX8_atOther_X8_with
set_option maxRecDepth 20000 in
theorem ggX8_atOther_X8_level : GoodIn wsX8_atOther wsX8_level := goodIn_r _ [36, 37, 38, 4, 5, 6, 39, 40, 41, 42, 43, 44, 45, 46, 47, 48, 49, 50, 51, 52, 53, 54, 55, 56, 57, 58, 59, 60, 61, 62, 63, 64, 65, 66, 67, 68, 69, 70, 71, 72, 73, 74, 75, 76, 77, 78, 79, 80, 81, 82, 83, 84, 85, 86, 87, 88, 89, 90, 91, 92, 93, 94, 95, 96, 97, 98] (by decide +kernel) (by decide +kernel)
set_option maxRecDepth 20000 in
theorem gX8_atOther_X8_level : GoodIn wsX8_atOther (wsV RX8 309 RX8 yX8_level wsX8_level) := goodIn_app (goodIn_of _ (by decide +kernel)) ggX8_atOther_X8_level
theorem dX8_atOther_0 : decode cX8_atOther 0 = .ok (.aload_n 0, 1) := by decide +kernel
theorem dX8_atOther_1 : decode cX8_atOther 1 = .ok (.getfield 101, 3) := by decide +kernel
theorem dX8_atOther_4 : decode cX8_atOther 4 = .ok (.iload_n 1, 1) := by decide +kernel
theorem dX8_atOther_5 : decode cX8_atOther 5 = .ok (.iaload, 1) := by decide +kernel
theorem dX8_atOther_6 : decode cX8_atOther 6 = .ok (.istore_n 3, 1) := by decide +kernel
theorem dX8_atOther_7 : decode cX8_atOther 7 = .ok (.aload_n 0, 1) := by decide +kernel
theorem dX8_atOther_8 : decode cX8_atOther 8 = .ok (.aload_n 0, 1) := by decide +kernel
theorem dX8_atOther_9 : decode cX8_atOther 9 = .ok (.getfield 284, 3) := by decide +kernel
theorem dX8_atOther_12 : decode cX8_atOther 12 = .ok (.iload_n 3, 1) := by decide +kernel
theorem dX8_atOther_13 : decode cX8_atOther 13 = .ok (.invokevirtual 306, 3) := by decide +kernel
theorem dX8_atOther_16 : decode cX8_atOther 16 = .ok (.istore 4, 2) := by decide +kernel
theorem dX8_atOther_18 : decode cX8_atOther 18 = .ok (.aload_n 0, 1) := by decide +kernel
theorem dX8_atOther_19 : decode cX8_atOther 19 = .ok (.iload 4, 2) := by decide +kernel
theorem dX8_atOther_21 : decode cX8_atOther 21 = .ok (.invokevirtual 263, 3) := by decide +kernel
theorem dX8_atOther_24 : decode cX8_atOther 24 = .ok (.istore 5, 2) := by decide +kernel
theorem dX8_atOther_26 : decode cX8_atOther 26 = .ok (.aload_n 0, 1) := by decide +kernel
theorem dX8_atOther_27 : decode cX8_atOther 27 = .ok (.iload 4, 2) := by decide +kernel
theorem dX8_atOther_29 : decode cX8_atOther 29 = .ok (.invokevirtual 266, 3) := by decide +kernel
theorem dX8_atOther_32 : decode cX8_atOther 32 = .ok (.istore 6, 2) := by decide +kernel
theorem dX8_atOther_34 : decode cX8_atOther 34 = .ok (.aload_n 0, 1) := by decide +kernel
theorem dX8_atOther_35 : decode cX8_atOther 35 = .ok (.getfield 98, 3) := by decide +kernel
theorem dX8_atOther_38 : decode cX8_atOther 38 = .ok (.iload_n 1, 1) := by decide +kernel
theorem dX8_atOther_39 : decode cX8_atOther 39 = .ok (.iaload, 1) := by decide +kernel
theorem dX8_atOther_40 : decode cX8_atOther 40 = .ok (.iconst 3, 1) := by decide +kernel
theorem dX8_atOther_41 : decode cX8_atOther 41 = .ok (.if_icmp .ne 36, 3) := by decide +kernel
theorem dX8_atOther_44 : decode cX8_atOther 44 = .ok (.aload_n 0, 1) := by decide +kernel
theorem dX8_atOther_45 : decode cX8_atOther 45 = .ok (.aload_n 0, 1) := by decide +kernel
theorem dX8_atOther_46 : decode cX8_atOther 46 = .ok (.aload_n 0, 1) := by decide +kernel
theorem dX8_atOther_47 : decode cX8_atOther 47 = .ok (.getfield 284, 3) := by decide +kernel
theorem dX8_atOther_50 : decode cX8_atOther 50 = .ok (.iload_n 3, 1) := by decide +kernel
theorem dX8_atOther_51 : decode cX8_atOther 51 = .ok (.iload_n 2, 1) := by decide +kernel
theorem dX8_atOther_52 : decode cX8_atOther 52 = .ok (.iconst 1, 1) := by decide +kernel
theorem dX8_atOther_53 : decode cX8_atOther 53 = .ok (.if_icmp .ne 13, 3) := by decide +kernel
theorem dX8_atOther_56 : decode cX8_atOther 56 = .ok (.aload_n 0, 1) := by decide +kernel
theorem dX8_atOther_57 : decode cX8_atOther 57 = .ok (.iconst 0, 1) := by decide +kernel
theorem dX8_atOther_58 : decode cX8_atOther 58 = .ok (.iload 4, 2) := by decide +kernel
theorem dX8_atOther_60 : decode cX8_atOther 60 = .ok (.invokevirtual 269, 3) := by decide +kernel
theorem dX8_atOther_63 : decode cX8_atOther 63 = .ok (.goto 5, 3) := by decide +kernel
theorem dX8_atOther_66 : decode cX8_atOther 66 = .ok (.iload 6, 2) := by decide +kernel
theorem dX8_atOther_68 : decode cX8_atOther 68 = .ok (.invokevirtual 312, 3) := by decide +kernel
theorem dX8_atOther_71 : decode cX8_atOther 71 = .ok (.putfield 284, 3) := by decide +kernel
theorem dX8_atOther_74 : decode cX8_atOther 74 = .ok (.goto 102, 3) := by decide +kernel
theorem dX8_atOther_77 : decode cX8_atOther 77 = .ok (.iload_n 2, 1) := by decide +kernel
theorem dX8_atOther_78 : decode cX8_atOther 78 = .ok (.iconst 1, 1) := by decide +kernel
theorem dX8_atOther_79 : decode cX8_atOther 79 = .ok (.if_icmp .ne 42, 3) := by decide +kernel
theorem dX8_atOther_82 : decode cX8_atOther 82 = .ok (.aload_n 0, 1) := by decide +kernel
theorem dX8_atOther_83 : decode cX8_atOther 83 = .ok (.aload_n 0, 1) := by decide +kernel
theorem dX8_atOther_84 : decode cX8_atOther 84 = .ok (.aload_n 0, 1) := by decide +kernel
theorem dX8_atOther_85 : decode cX8_atOther 85 = .ok (.getfield 284, 3) := by decide +kernel
theorem dX8_atOther_88 : decode cX8_atOther 88 = .ok (.iload_n 3, 1) := by decide +kernel
theorem dX8_atOther_89 : decode cX8_atOther 89 = .ok (.aload_n 0, 1) := by decide +kernel
theorem dX8_atOther_90 : decode cX8_atOther 90 = .ok (.aload_n 0, 1) := by decide +kernel
theorem dX8_atOther_91 : decode cX8_atOther 91 = .ok (.iconst 3, 1) := by decide +kernel
theorem dX8_atOther_92 : decode cX8_atOther 92 = .ok (.iload 5, 2) := by decide +kernel
theorem dX8_atOther_94 : decode cX8_atOther 94 = .ok (.aload_n 0, 1) := by decide +kernel
theorem dX8_atOther_95 : decode cX8_atOther 95 = .ok (.iload 6, 2) := by decide +kernel
theorem dX8_atOther_97 : decode cX8_atOther 97 = .ok (.invokevirtual 263, 3) := by decide +kernel
theorem dX8_atOther_100 : decode cX8_atOther 100 = .ok (.invokevirtual 309, 3) := by decide +kernel
theorem dX8_atOther_103 : decode cX8_atOther 103 = .ok (.aload_n 0, 1) := by decide +kernel
theorem dX8_atOther_104 : decode cX8_atOther 104 = .ok (.iload 6, 2) := by decide +kernel
theorem dX8_atOther_106 : decode cX8_atOther 106 = .ok (.invokevirtual 266, 3) := by decide +kernel
theorem dX8_atOther_109 : decode cX8_atOther 109 = .ok (.invokevirtual 269, 3) := by decide +kernel
theorem dX8_atOther_112 : decode cX8_atOther 112 = .ok (.invokevirtual 312, 3) := by decide +kernel
theorem dX8_atOther_115 : decode cX8_atOther 115 = .ok (.putfield 284, 3) := by decide +kernel
theorem dX8_atOther_118 : decode cX8_atOther 118 = .ok (.goto 58, 3) := by decide +kernel
theorem dX8_atOther_121 : decode cX8_atOther 121 = .ok (.iload 5, 2) := by decide +kernel
theorem dX8_atOther_123 : decode cX8_atOther 123 = .ok (.ifCond .eq 14, 3) := by decide +kernel
theorem dX8_atOther_126 : decode cX8_atOther 126 = .ok (.aload_n 0, 1) := by decide +kernel
theorem dX8_atOther_127 : decode cX8_atOther 127 = .ok (.getfield 173, 3) := by decide +kernel
theorem dX8_atOther_130 : decode cX8_atOther 130 = .ok (.iload 5, 2) := by decide +kernel
theorem dX8_atOther_132 : decode cX8_atOther 132 = .ok (.iaload, 1) := by decide +kernel
theorem dX8_atOther_133 : decode cX8_atOther 133 = .ok (.iconst 3, 1) := by decide +kernel
theorem dX8_atOther_134 : decode cX8_atOther 134 = .ok (.if_icmp .eq 5, 3) := by decide +kernel
theorem dX8_atOther_137 : decode cX8_atOther 137 = .ok (.iconst 4, 1) := by decide +kernel
theorem dX8_atOther_138 : decode cX8_atOther 138 = .ok (.ireturn, 1) := by decide +kernel
theorem dX8_atOther_139 : decode cX8_atOther 139 = .ok (.aload_n 0, 1) := by decide +kernel
theorem dX8_atOther_140 : decode cX8_atOther 140 = .ok (.aload_n 0, 1) := by decide +kernel
theorem dX8_atOther_141 : decode cX8_atOther 141 = .ok (.aload_n 0, 1) := by decide +kernel
theorem dX8_atOther_142 : decode cX8_atOther 142 = .ok (.getfield 284, 3) := by decide +kernel
theorem dX8_atOther_145 : decode cX8_atOther 145 = .ok (.iload_n 3, 1) := by decide +kernel
theorem dX8_atOther_146 : decode cX8_atOther 146 = .ok (.aload_n 0, 1) := by decide +kernel
theorem dX8_atOther_147 : decode cX8_atOther 147 = .ok (.aload_n 0, 1) := by decide +kernel
theorem dX8_atOther_148 : decode cX8_atOther 148 = .ok (.getfield 176, 3) := by decide +kernel
theorem dX8_atOther_151 : decode cX8_atOther 151 = .ok (.iload 5, 2) := by decide +kernel
theorem dX8_atOther_153 : decode cX8_atOther 153 = .ok (.iaload, 1) := by decide +kernel
theorem dX8_atOther_154 : decode cX8_atOther 154 = .ok (.aload_n 0, 1) := by decide +kernel
theorem dX8_atOther_155 : decode cX8_atOther 155 = .ok (.aload_n 0, 1) := by decide +kernel
theorem dX8_atOther_156 : decode cX8_atOther 156 = .ok (.getfield 179, 3) := by decide +kernel
theorem dX8_atOther_159 : decode cX8_atOther 159 = .ok (.iload 5, 2) := by decide +kernel
theorem dX8_atOther_161 : decode cX8_atOther 161 = .ok (.iaload, 1) := by decide +kernel
theorem dX8_atOther_162 : decode cX8_atOther 162 = .ok (.iload 6, 2) := by decide +kernel
theorem dX8_atOther_164 : decode cX8_atOther 164 = .ok (.invokevirtual 269, 3) := by decide +kernel
theorem dX8_atOther_167 : decode cX8_atOther 167 = .ok (.invokevirtual 269, 3) := by decide +kernel
theorem dX8_atOther_170 : decode cX8_atOther 170 = .ok (.invokevirtual 312, 3) := by decide +kernel
theorem dX8_atOther_173 : decode cX8_atOther 173 = .ok (.putfield 284, 3) := by decide +kernel
theorem dX8_atOther_176 : decode cX8_atOther 176 = .ok (.aload_n 0, 1) := by decide +kernel
theorem dX8_atOther_177 : decode cX8_atOther 177 = .ok (.iconst 3, 1) := by decide +kernel
theorem dX8_atOther_178 : decode cX8_atOther 178 = .ok (.iload_n 1, 1) := by decide +kernel
theorem dX8_atOther_179 : decode cX8_atOther 179 = .ok (.imul, 1) := by decide +kernel
theorem dX8_atOther_180 : decode cX8_atOther 180 = .ok (.iconst 1, 1) := by decide +kernel
theorem dX8_atOther_181 : decode cX8_atOther 181 = .ok (.iadd, 1) := by decide +kernel
theorem dX8_atOther_182 : decode cX8_atOther 182 = .ok (.iload_n 2, 1) := by decide +kernel
theorem dX8_atOther_183 : decode cX8_atOther 183 = .ok (.isub, 1) := by decide +kernel
theorem dX8_atOther_184 : decode cX8_atOther 184 = .ok (.putfield 287, 3) := by decide +kernel
theorem dX8_atOther_187 : decode cX8_atOther 187 = .ok (.bipush 6, 2) := by decide +kernel
theorem dX8_atOther_189 : decode cX8_atOther 189 = .ok (.ireturn, 1) := by decide +kernel
set_option maxRecDepth 20000 in
theorem ggX8_step_X8_atLambda : GoodIn wsX8_step wsX8_atLambda := goodIn_r _ [10, 11, 12, 13, 14, 15, 2, 16, 17, 18, 9, 19, 20, 21, 22, 23, 24, 25, 26, 27, 28, 29, 30, 31, 32, 33, 34, 35, 36, 37, 38, 39, 40, 41, 42, 43, 44, 45, 46, 47, 48, 49, 50, 51, 52, 53, 54, 92, 93, 94, 95, 96, 97, 98, 99, 100, 101, 102, 103, 104, 105, 106, 107, 108, 109, 110, 111, 112, 113, 114, 115, 116, 117, 118, 119, 120, 121, 122, 123, 124, 125, 126, 127, 128, 129, 130, 131, 132, 133, 134, 135, 136, 137, 138, 139, 140, 141, 142, 143, 144, 145, 146, 147, 148, 149] (by decide +kernel) (by decide +kernel)
set_option maxRecDepth 20000 in
theorem gX8_step_X8_atLambda : GoodIn wsX8_step (wsV RX8 321 RX8 yX8_atLambda wsX8_atLambda) := goodIn_app (goodIn_of _ (by decide +kernel)) ggX8_step_X8_atLambda
set_option maxRecDepth 20000 in
theorem ggX8_step_X8_atApplication : GoodIn wsX8_step wsX8_atApplication := goodIn_r _ [58, 11, 15, 2, 39, 40, 41, 9, 42, 43, 51, 52, 53, 54, 49, 48, 50, 92, 93, 94, 95, 96, 97, 98, 99, 100, 101, 102, 103, 104, 105, 106, 107, 108, 109, 110, 111, 112, 113, 114, 115, 116, 117, 118, 119, 120, 121, 122, 123, 124, 125, 126, 127, 128, 129, 130, 131, 132, 133, 134, 135, 136, 137, 138, 139, 140, 141, 142, 143, 144, 145, 146, 147, 148, 149] (by decide +kernel) (by decide +kernel)
set_option maxRecDepth 20000 in
theorem gX8_step_X8_atApplication : GoodIn wsX8_step (wsV RX8 324 RX8 yX8_atApplication wsX8_atApplication) := goodIn_app (goodIn_of _ (by decide +kernel)) ggX8_step_X8_atApplication
set_option maxRecDepth 20000 in
theorem ggX8_step_X8_atFan : GoodIn wsX8_step wsX8_atFan := goodIn_r _ [62, 20, 15, 2, 63, 64, 65, 66, 67, 9, 68, 34, 25, 26, 27, 28, 29, 69, 70, 71, 72, 73, 74, 75, 76, 77, 30, 31, 32, 33, 78, 79, 80, 81, 82, 83, 84, 85, 86, 87, 92, 93, 94, 95, 96, 97, 98, 99, 100, 101, 102, 103, 104, 105, 106, 107, 108, 109, 110, 111, 112, 113, 114, 115, 116, 117, 118, 119, 120, 121, 122, 123, 124, 125, 126, 127, 128, 129, 130, 131, 132, 133, 134, 135, 136, 137, 138, 139, 140, 141, 142, 143, 144, 145, 146, 147, 148, 149] (by decide +kernel) (by decide +kernel)
set_option maxRecDepth 20000 in
theorem gX8_step_X8_atFan : GoodIn wsX8_step (wsV RX8 327 RX8 yX8_atFan wsX8_atFan) := goodIn_app (goodIn_of _ (by decide +kernel)) ggX8_step_X8_atFan
set_option maxRecDepth 20000 in
theorem ggX8_step_X8_atOther : GoodIn wsX8_step wsX8_atOther := goodIn_r _ [91, 20, 15, 3, 63, 64, 75, 2, 65, 66, 67, 9, 68, 34, 25, 26, 27, 28, 29, 30, 31, 32, 33, 78, 79, 80, 81, 82, 83, 84, 85, 86, 87, 69, 70, 71, 72, 73, 74, 76, 77, 92, 93, 94, 95, 96, 97, 98, 99, 100, 101, 102, 103, 104, 105, 106, 107, 108, 109, 110, 111, 112, 113, 114, 115, 116, 117, 118, 119, 120, 121, 122, 123, 124, 125, 126, 127, 128, 129, 130, 131, 132, 133, 134, 135, 136, 137, 138, 139, 140, 141, 142, 143, 144, 145, 146, 147, 148, 149] (by decide +kernel) (by decide +kernel)
set_option maxRecDepth 20000 in
theorem gX8_step_X8_atOther : GoodIn wsX8_step (wsV RX8 330 RX8 yX8_atOther wsX8_atOther) := goodIn_app (goodIn_of _ (by decide +kernel)) ggX8_step_X8_atOther
theorem dX8_step_0 : decode cX8_step 0 = .ok (.aload_n 0, 1) := by decide +kernel
theorem dX8_step_1 : decode cX8_step 1 = .ok (.getfield 113, 3) := by decide +kernel
theorem dX8_step_4 : decode cX8_step 4 = .ok (.aload_n 0, 1) := by decide +kernel
theorem dX8_step_5 : decode cX8_step 5 = .ok (.getfield 287, 3) := by decide +kernel
theorem dX8_step_8 : decode cX8_step 8 = .ok (.iaload, 1) := by decide +kernel
theorem dX8_step_9 : decode cX8_step 9 = .ok (.istore_n 1, 1) := by decide +kernel
theorem dX8_step_10 : decode cX8_step 10 = .ok (.iload_n 1, 1) := by decide +kernel
theorem dX8_step_11 : decode cX8_step 11 = .ok (.iconst 3, 1) := by decide +kernel
theorem dX8_step_12 : decode cX8_step 12 = .ok (.idiv, 1) := by decide +kernel
theorem dX8_step_13 : decode cX8_step 13 = .ok (.istore_n 2, 1) := by decide +kernel
theorem dX8_step_14 : decode cX8_step 14 = .ok (.iload_n 1, 1) := by decide +kernel
theorem dX8_step_15 : decode cX8_step 15 = .ok (.iconst 3, 1) := by decide +kernel
theorem dX8_step_16 : decode cX8_step 16 = .ok (.irem, 1) := by decide +kernel
theorem dX8_step_17 : decode cX8_step 17 = .ok (.istore_n 3, 1) := by decide +kernel
theorem dX8_step_18 : decode cX8_step 18 = .ok (.iload_n 3, 1) := by decide +kernel
theorem dX8_step_19 : decode cX8_step 19 = .ok (.ifCond .ne 45, 3) := by decide +kernel
theorem dX8_step_22 : decode cX8_step 22 = .ok (.aload_n 0, 1) := by decide +kernel
theorem dX8_step_23 : decode cX8_step 23 = .ok (.getfield 287, 3) := by decide +kernel
theorem dX8_step_26 : decode cX8_step 26 = .ok (.iconst 3, 1) := by decide +kernel
theorem dX8_step_27 : decode cX8_step 27 = .ok (.irem, 1) := by decide +kernel
theorem dX8_step_28 : decode cX8_step 28 = .ok (.ifCond .ne 36, 3) := by decide +kernel
theorem dX8_step_31 : decode cX8_step 31 = .ok (.aload_n 0, 1) := by decide +kernel
theorem dX8_step_32 : decode cX8_step 32 = .ok (.getfield 98, 3) := by decide +kernel
theorem dX8_step_35 : decode cX8_step 35 = .ok (.aload_n 0, 1) := by decide +kernel
theorem dX8_step_36 : decode cX8_step 36 = .ok (.getfield 287, 3) := by decide +kernel
theorem dX8_step_39 : decode cX8_step 39 = .ok (.iconst 3, 1) := by decide +kernel
theorem dX8_step_40 : decode cX8_step 40 = .ok (.idiv, 1) := by decide +kernel
theorem dX8_step_41 : decode cX8_step 41 = .ok (.iaload, 1) := by decide +kernel
theorem dX8_step_42 : decode cX8_step 42 = .ok (.bipush 6, 2) := by decide +kernel
theorem dX8_step_44 : decode cX8_step 44 = .ok (.if_icmp .eq 20, 3) := by decide +kernel
theorem dX8_step_47 : decode cX8_step 47 = .ok (.aload_n 0, 1) := by decide +kernel
theorem dX8_step_48 : decode cX8_step 48 = .ok (.aload_n 0, 1) := by decide +kernel
theorem dX8_step_49 : decode cX8_step 49 = .ok (.getfield 287, 3) := by decide +kernel
theorem dX8_step_52 : decode cX8_step 52 = .ok (.iconst 3, 1) := by decide +kernel
theorem dX8_step_53 : decode cX8_step 53 = .ok (.idiv, 1) := by decide +kernel
theorem dX8_step_54 : decode cX8_step 54 = .ok (.putfield 315, 3) := by decide +kernel
theorem dX8_step_57 : decode cX8_step 57 = .ok (.aload_n 0, 1) := by decide +kernel
theorem dX8_step_58 : decode cX8_step 58 = .ok (.iload_n 2, 1) := by decide +kernel
theorem dX8_step_59 : decode cX8_step 59 = .ok (.putfield 318, 3) := by decide +kernel
theorem dX8_step_62 : decode cX8_step 62 = .ok (.iconst 5, 1) := by decide +kernel
theorem dX8_step_63 : decode cX8_step 63 = .ok (.ireturn, 1) := by decide +kernel
theorem dX8_step_64 : decode cX8_step 64 = .ok (.aload_n 0, 1) := by decide +kernel
theorem dX8_step_65 : decode cX8_step 65 = .ok (.getfield 98, 3) := by decide +kernel
theorem dX8_step_68 : decode cX8_step 68 = .ok (.iload_n 2, 1) := by decide +kernel
theorem dX8_step_69 : decode cX8_step 69 = .ok (.iaload, 1) := by decide +kernel
theorem dX8_step_70 : decode cX8_step 70 = .ok (.tableswitch 62 0 4 #[34, 41, 48, 55, 55], 34) := by decide +kernel
theorem dX8_step_104 : decode cX8_step 104 = .ok (.aload_n 0, 1) := by decide +kernel
theorem dX8_step_105 : decode cX8_step 105 = .ok (.iload_n 2, 1) := by decide +kernel
theorem dX8_step_106 : decode cX8_step 106 = .ok (.iload_n 3, 1) := by decide +kernel
theorem dX8_step_107 : decode cX8_step 107 = .ok (.invokevirtual 321, 3) := by decide +kernel
theorem dX8_step_110 : decode cX8_step 110 = .ok (.ireturn, 1) := by decide +kernel
theorem dX8_step_111 : decode cX8_step 111 = .ok (.aload_n 0, 1) := by decide +kernel
theorem dX8_step_112 : decode cX8_step 112 = .ok (.iload_n 2, 1) := by decide +kernel
theorem dX8_step_113 : decode cX8_step 113 = .ok (.iload_n 3, 1) := by decide +kernel
theorem dX8_step_114 : decode cX8_step 114 = .ok (.invokevirtual 324, 3) := by decide +kernel
theorem dX8_step_117 : decode cX8_step 117 = .ok (.ireturn, 1) := by decide +kernel
theorem dX8_step_118 : decode cX8_step 118 = .ok (.aload_n 0, 1) := by decide +kernel
theorem dX8_step_119 : decode cX8_step 119 = .ok (.iload_n 2, 1) := by decide +kernel
theorem dX8_step_120 : decode cX8_step 120 = .ok (.iload_n 3, 1) := by decide +kernel
theorem dX8_step_121 : decode cX8_step 121 = .ok (.invokevirtual 327, 3) := by decide +kernel
theorem dX8_step_124 : decode cX8_step 124 = .ok (.ireturn, 1) := by decide +kernel
theorem dX8_step_125 : decode cX8_step 125 = .ok (.aload_n 0, 1) := by decide +kernel
theorem dX8_step_126 : decode cX8_step 126 = .ok (.iload_n 2, 1) := by decide +kernel
theorem dX8_step_127 : decode cX8_step 127 = .ok (.iload_n 3, 1) := by decide +kernel
theorem dX8_step_128 : decode cX8_step 128 = .ok (.invokevirtual 330, 3) := by decide +kernel
theorem dX8_step_131 : decode cX8_step 131 = .ok (.ireturn, 1) := by decide +kernel
theorem dX8_step_132 : decode cX8_step 132 = .ok (.iconst 4, 1) := by decide +kernel
theorem dX8_step_133 : decode cX8_step 133 = .ok (.ireturn, 1) := by decide +kernel
set_option maxRecDepth 20000 in
theorem ggX8_walk_X8_step : GoodIn wsX8_walk wsX8_step := goodIn_r _ [13, 14, 8, 15, 16, 17, 18, 19, 20, 12, 21, 4, 22, 5, 23, 7, 24, 25, 26, 27, 28, 29, 30, 31, 32, 33, 34, 35, 36, 37, 38, 39, 40, 41, 42, 43, 44, 45, 46, 47, 48, 49, 50, 51, 52, 53, 54, 55, 6, 56, 57, 58, 59, 60, 61, 62, 63, 64, 65, 66, 67, 68, 69, 70, 71, 72, 73, 74, 75, 76, 77, 78, 79, 80, 1, 81, 82, 2, 83, 84, 85, 86, 3, 87, 88, 89, 90, 91, 92, 93, 94, 95, 96, 97, 98, 99, 100, 101, 102, 103, 104, 105, 106, 107, 108, 109, 110, 111, 112, 113, 114, 115, 116, 117, 118, 119, 120, 121, 122, 123, 124, 125, 126, 127, 128, 129, 130, 131, 132, 133, 134, 135, 136, 137, 138, 139, 140, 141, 142, 143, 144, 145, 146, 147, 148, 149, 150, 151, 152, 153] (by decide +kernel) (by decide +kernel)
set_option maxRecDepth 20000 in
theorem gX8_walk_X8_step : GoodIn wsX8_walk (wsV RX8 333 RX8 yX8_step wsX8_step) := goodIn_app (goodIn_of _ (by decide +kernel)) ggX8_walk_X8_step
theorem dX8_walk_0 : decode cX8_walk 0 = .ok (.iconst 0, 1) := by decide +kernel
theorem dX8_walk_1 : decode cX8_walk 1 = .ok (.istore_n 1, 1) := by decide +kernel
theorem dX8_walk_2 : decode cX8_walk 2 = .ok (.iload_n 1, 1) := by decide +kernel
theorem dX8_walk_3 : decode cX8_walk 3 = .ok (.sipush 512, 3) := by decide +kernel
theorem dX8_walk_6 : decode cX8_walk 6 = .ok (.if_icmp .ge 16, 3) := by decide +kernel
theorem dX8_walk_9 : decode cX8_walk 9 = .ok (.aload_n 0, 1) := by decide +kernel
theorem dX8_walk_10 : decode cX8_walk 10 = .ok (.getfield 185, 3) := by decide +kernel
theorem dX8_walk_13 : decode cX8_walk 13 = .ok (.iload_n 1, 1) := by decide +kernel
theorem dX8_walk_14 : decode cX8_walk 14 = .ok (.iconst 0, 1) := by decide +kernel
theorem dX8_walk_15 : decode cX8_walk 15 = .ok (.iastore, 1) := by decide +kernel
theorem dX8_walk_16 : decode cX8_walk 16 = .ok (.iinc 1 1, 3) := by decide +kernel
theorem dX8_walk_19 : decode cX8_walk 19 = .ok (.goto (-17), 3) := by decide +kernel
theorem dX8_walk_22 : decode cX8_walk 22 = .ok (.aload_n 0, 1) := by decide +kernel
theorem dX8_walk_23 : decode cX8_walk 23 = .ok (.iconst 1, 1) := by decide +kernel
theorem dX8_walk_24 : decode cX8_walk 24 = .ok (.putfield 257, 3) := by decide +kernel
theorem dX8_walk_27 : decode cX8_walk 27 = .ok (.aload_n 0, 1) := by decide +kernel
theorem dX8_walk_28 : decode cX8_walk 28 = .ok (.iconst 1, 1) := by decide +kernel
theorem dX8_walk_29 : decode cX8_walk 29 = .ok (.putfield 260, 3) := by decide +kernel
theorem dX8_walk_32 : decode cX8_walk 32 = .ok (.aload_n 0, 1) := by decide +kernel
theorem dX8_walk_33 : decode cX8_walk 33 = .ok (.iconst 0, 1) := by decide +kernel
theorem dX8_walk_34 : decode cX8_walk 34 = .ok (.putfield 272, 3) := by decide +kernel
theorem dX8_walk_37 : decode cX8_walk 37 = .ok (.aload_n 0, 1) := by decide +kernel
theorem dX8_walk_38 : decode cX8_walk 38 = .ok (.iconst 0, 1) := by decide +kernel
theorem dX8_walk_39 : decode cX8_walk 39 = .ok (.putfield 281, 3) := by decide +kernel
theorem dX8_walk_42 : decode cX8_walk 42 = .ok (.aload_n 0, 1) := by decide +kernel
theorem dX8_walk_43 : decode cX8_walk 43 = .ok (.iconst 0, 1) := by decide +kernel
theorem dX8_walk_44 : decode cX8_walk 44 = .ok (.putfield 278, 3) := by decide +kernel
theorem dX8_walk_47 : decode cX8_walk 47 = .ok (.aload_n 0, 1) := by decide +kernel
theorem dX8_walk_48 : decode cX8_walk 48 = .ok (.iconst 0, 1) := by decide +kernel
theorem dX8_walk_49 : decode cX8_walk 49 = .ok (.putfield 284, 3) := by decide +kernel
theorem dX8_walk_52 : decode cX8_walk 52 = .ok (.aload_n 0, 1) := by decide +kernel
theorem dX8_walk_53 : decode cX8_walk 53 = .ok (.iconst 0, 1) := by decide +kernel
theorem dX8_walk_54 : decode cX8_walk 54 = .ok (.putfield 287, 3) := by decide +kernel
theorem dX8_walk_57 : decode cX8_walk 57 = .ok (.bipush 6, 2) := by decide +kernel
theorem dX8_walk_59 : decode cX8_walk 59 = .ok (.istore_n 1, 1) := by decide +kernel
theorem dX8_walk_60 : decode cX8_walk 60 = .ok (.iconst 0, 1) := by decide +kernel
theorem dX8_walk_61 : decode cX8_walk 61 = .ok (.istore_n 2, 1) := by decide +kernel
theorem dX8_walk_62 : decode cX8_walk 62 = .ok (.iload_n 1, 1) := by decide +kernel
theorem dX8_walk_63 : decode cX8_walk 63 = .ok (.bipush 6, 2) := by decide +kernel
theorem dX8_walk_65 : decode cX8_walk 65 = .ok (.if_icmp .ne 41, 3) := by decide +kernel
theorem dX8_walk_68 : decode cX8_walk 68 = .ok (.iload_n 2, 1) := by decide +kernel
theorem dX8_walk_69 : decode cX8_walk 69 = .ok (.sipush 4000, 3) := by decide +kernel
theorem dX8_walk_72 : decode cX8_walk 72 = .ok (.if_icmp .ne 7, 3) := by decide +kernel
theorem dX8_walk_75 : decode cX8_walk 75 = .ok (.iconst 3, 1) := by decide +kernel
theorem dX8_walk_76 : decode cX8_walk 76 = .ok (.goto 7, 3) := by decide +kernel
theorem dX8_walk_79 : decode cX8_walk 79 = .ok (.aload_n 0, 1) := by decide +kernel
theorem dX8_walk_80 : decode cX8_walk 80 = .ok (.invokevirtual 333, 3) := by decide +kernel
theorem dX8_walk_83 : decode cX8_walk 83 = .ok (.istore_n 1, 1) := by decide +kernel
theorem dX8_walk_84 : decode cX8_walk 84 = .ok (.aload_n 0, 1) := by decide +kernel
theorem dX8_walk_85 : decode cX8_walk 85 = .ok (.getfield 272, 3) := by decide +kernel
theorem dX8_walk_88 : decode cX8_walk 88 = .ok (.sipush 4000, 3) := by decide +kernel
theorem dX8_walk_91 : decode cX8_walk 91 = .ok (.if_icmp .le 7, 3) := by decide +kernel
theorem dX8_walk_94 : decode cX8_walk 94 = .ok (.iconst 3, 1) := by decide +kernel
theorem dX8_walk_95 : decode cX8_walk 95 = .ok (.goto 4, 3) := by decide +kernel
theorem dX8_walk_98 : decode cX8_walk 98 = .ok (.iload_n 1, 1) := by decide +kernel
theorem dX8_walk_99 : decode cX8_walk 99 = .ok (.istore_n 1, 1) := by decide +kernel
theorem dX8_walk_100 : decode cX8_walk 100 = .ok (.iinc 2 1, 3) := by decide +kernel
theorem dX8_walk_103 : decode cX8_walk 103 = .ok (.goto (-41), 3) := by decide +kernel
theorem dX8_walk_106 : decode cX8_walk 106 = .ok (.iload_n 1, 1) := by decide +kernel
theorem dX8_walk_107 : decode cX8_walk 107 = .ok (.ireturn, 1) := by decide +kernel
set_option maxRecDepth 20000 in
theorem ggX8_run_X8_walk : GoodIn wsX8_run wsX8_walk := goodIn_r _ [11, 12, 13, 14, 6, 15, 16, 17, 18, 19, 20, 21, 10, 22, 23, 24, 4, 5, 25, 26, 27, 28, 29, 30, 31, 32, 33, 34, 35, 36, 37, 38, 39, 40, 41, 42, 43, 44, 45, 46, 47, 48, 49, 50, 51, 52, 53, 54, 55, 56, 57, 58, 59, 60, 61, 62, 63, 64, 65, 66, 67, 68, 69, 70, 71, 72, 73, 74, 75, 76, 77, 78, 79, 80, 81, 82, 83, 84, 85, 86, 87, 88, 89, 90, 91, 92, 93, 94, 95, 96, 97, 98, 99, 100, 101, 102, 181, 182, 183, 184, 185, 186, 187, 188, 189, 190, 191, 192, 193, 194, 195, 196, 197, 198, 199, 200, 201, 202, 203, 204, 205, 206, 207, 208, 209, 210, 211, 212, 213, 214, 215, 216, 217, 218, 219, 220, 221, 222, 223, 224, 225, 226, 227, 228, 229, 230, 231, 232, 233, 234, 235, 236, 237, 238] (by decide +kernel) (by decide +kernel)
set_option maxRecDepth 20000 in
theorem gX8_run_X8_walk : GoodIn wsX8_run (wsV RX8 337 RX8 yX8_walk wsX8_walk) := goodIn_app (goodIn_of _ (by decide +kernel)) ggX8_run_X8_walk
set_option maxRecDepth 20000 in
theorem ggX8_run_X8_meetingOf : GoodIn wsX8_run wsX8_meetingOf := goodIn_r _ [106, 35, 24, 107, 108, 109, 110, 10, 111, 181, 182, 183, 184, 185, 186, 187, 188, 189, 190, 191, 192, 193, 194, 195, 196, 197, 198, 199, 200, 201, 202, 203, 204, 205, 206, 207, 208, 209, 210, 211, 212, 213, 214, 215, 216, 217, 218, 219, 220, 221, 222, 223, 224, 225, 226, 227, 228, 229, 230, 231, 232, 233, 234, 235, 236, 237, 238] (by decide +kernel) (by decide +kernel)
set_option maxRecDepth 20000 in
theorem gX8_run_X8_meetingOf : GoodIn wsX8_run (wsV RX8 340 RX8 yX8_meetingOf wsX8_meetingOf) := goodIn_app (goodIn_of _ (by decide +kernel)) ggX8_run_X8_meetingOf
set_option maxRecDepth 20000 in
theorem ggX8_run_X8_isTight : GoodIn wsX8_run wsX8_isTight := goodIn_r _ [115, 24, 108, 107, 116, 35, 117, 118, 10, 119, 181, 182, 183, 184, 185, 186, 187, 188, 189, 190, 191, 192, 193, 194, 195, 196, 197, 198, 199, 200, 201, 202, 203, 204, 205, 206, 207, 208, 209, 210, 211, 212, 213, 214, 215, 216, 217, 218, 219, 220, 221, 222, 223, 224, 225, 226, 227, 228, 229, 230, 231, 232, 233, 234, 235, 236, 237, 238] (by decide +kernel) (by decide +kernel)
set_option maxRecDepth 20000 in
theorem gX8_run_X8_isTight : GoodIn wsX8_run (wsV RX8 343 RX8 yX8_isTight wsX8_isTight) := goodIn_app (goodIn_of _ (by decide +kernel)) ggX8_run_X8_isTight
set_option maxRecDepth 20000 in
theorem ggX8_run_X8_meet : GoodIn wsX8_run wsX8_meet := goodIn_r _ [123, 124, 125, 126, 127, 128, 129, 10, 130, 107, 108, 24, 35, 131, 23, 117, 118, 119, 132, 133, 134, 135, 136, 137, 116, 138, 139, 140, 141, 142, 143, 144, 145, 146, 147, 148, 149, 150, 151, 152, 153, 154, 155, 156, 157, 158, 159, 160, 161, 162, 163, 164, 165, 166, 167, 168, 169, 170, 171, 172, 173, 174, 175, 176, 177, 178, 179, 180, 181, 182, 183, 184, 185, 186, 187, 188, 189, 190, 191, 192, 193, 194, 195, 196, 197, 198, 199, 200, 201, 202, 203, 204, 205, 206, 207, 208, 209, 210, 211, 212, 213, 214, 215, 216, 217, 218, 219, 220, 221, 222, 223, 224, 225, 226, 227, 228, 229, 230, 231, 232, 233, 234, 235, 236, 237, 238] (by decide +kernel) (by decide +kernel)
set_option maxRecDepth 20000 in
theorem gX8_run_X8_meet : GoodIn wsX8_run (wsV RX8 347 RX8 yX8_meet wsX8_meet) := goodIn_app (goodIn_of _ (by decide +kernel)) ggX8_run_X8_meet
theorem dX8_run_0 : decode cX8_run 0 = .ok (.aload_n 0, 1) := by decide +kernel
theorem dX8_run_1 : decode cX8_run 1 = .ok (.iload_n 1, 1) := by decide +kernel
theorem dX8_run_2 : decode cX8_run 2 = .ok (.ifCond .lt 10, 3) := by decide +kernel
theorem dX8_run_5 : decode cX8_run 5 = .ok (.iload_n 1, 1) := by decide +kernel
theorem dX8_run_6 : decode cX8_run 6 = .ok (.ldc_w 336, 3) := by decide +kernel
theorem dX8_run_9 : decode cX8_run 9 = .ok (.if_icmp .le 7, 3) := by decide +kernel
theorem dX8_run_12 : decode cX8_run 12 = .ok (.iconst 1, 1) := by decide +kernel
theorem dX8_run_13 : decode cX8_run 13 = .ok (.goto 4, 3) := by decide +kernel
theorem dX8_run_16 : decode cX8_run 16 = .ok (.iconst 0, 1) := by decide +kernel
theorem dX8_run_17 : decode cX8_run 17 = .ok (.putfield 1, 3) := by decide +kernel
theorem dX8_run_20 : decode cX8_run 20 = .ok (.aload_n 0, 1) := by decide +kernel
theorem dX8_run_21 : decode cX8_run 21 = .ok (.getfield 1, 3) := by decide +kernel
theorem dX8_run_24 : decode cX8_run 24 = .ok (.ifCond .le 5, 3) := by decide +kernel
theorem dX8_run_27 : decode cX8_run 27 = .ok (.iconst 0, 1) := by decide +kernel
theorem dX8_run_28 : decode cX8_run 28 = .ok (.ireturn, 1) := by decide +kernel
theorem dX8_run_29 : decode cX8_run 29 = .ok (.aload_n 0, 1) := by decide +kernel
theorem dX8_run_30 : decode cX8_run 30 = .ok (.iconst 0, 1) := by decide +kernel
theorem dX8_run_31 : decode cX8_run 31 = .ok (.putfield 156, 3) := by decide +kernel
theorem dX8_run_34 : decode cX8_run 34 = .ok (.iload_n 1, 1) := by decide +kernel
theorem dX8_run_35 : decode cX8_run 35 = .ok (.istore_n 2, 1) := by decide +kernel
theorem dX8_run_36 : decode cX8_run 36 = .ok (.aload_n 0, 1) := by decide +kernel
theorem dX8_run_37 : decode cX8_run 37 = .ok (.invokevirtual 337, 3) := by decide +kernel
theorem dX8_run_40 : decode cX8_run 40 = .ok (.istore_n 3, 1) := by decide +kernel
theorem dX8_run_41 : decode cX8_run 41 = .ok (.iload_n 3, 1) := by decide +kernel
theorem dX8_run_42 : decode cX8_run 42 = .ok (.iconst 5, 1) := by decide +kernel
theorem dX8_run_43 : decode cX8_run 43 = .ok (.if_icmp .ne 89, 3) := by decide +kernel
theorem dX8_run_46 : decode cX8_run 46 = .ok (.iload_n 2, 1) := by decide +kernel
theorem dX8_run_47 : decode cX8_run 47 = .ok (.ifCond .le 18, 3) := by decide +kernel
theorem dX8_run_50 : decode cX8_run 50 = .ok (.aload_n 0, 1) := by decide +kernel
theorem dX8_run_51 : decode cX8_run 51 = .ok (.aload_n 0, 1) := by decide +kernel
theorem dX8_run_52 : decode cX8_run 52 = .ok (.getfield 315, 3) := by decide +kernel
theorem dX8_run_55 : decode cX8_run 55 = .ok (.aload_n 0, 1) := by decide +kernel
theorem dX8_run_56 : decode cX8_run 56 = .ok (.getfield 318, 3) := by decide +kernel
theorem dX8_run_59 : decode cX8_run 59 = .ok (.invokevirtual 340, 3) := by decide +kernel
theorem dX8_run_62 : decode cX8_run 62 = .ok (.goto 4, 3) := by decide +kernel
theorem dX8_run_65 : decode cX8_run 65 = .ok (.iconst (-1), 1) := by decide +kernel
theorem dX8_run_66 : decode cX8_run 66 = .ok (.istore 4, 2) := by decide +kernel
theorem dX8_run_68 : decode cX8_run 68 = .ok (.iload 4, 2) := by decide +kernel
theorem dX8_run_70 : decode cX8_run 70 = .ok (.ifCond .ge 8, 3) := by decide +kernel
theorem dX8_run_73 : decode cX8_run 73 = .ok (.iconst 1, 1) := by decide +kernel
theorem dX8_run_74 : decode cX8_run 74 = .ok (.istore_n 3, 1) := by decide +kernel
theorem dX8_run_75 : decode cX8_run 75 = .ok (.goto 54, 3) := by decide +kernel
theorem dX8_run_78 : decode cX8_run 78 = .ok (.iload 4, 2) := by decide +kernel
theorem dX8_run_80 : decode cX8_run 80 = .ok (.iconst 3, 1) := by decide +kernel
theorem dX8_run_81 : decode cX8_run 81 = .ok (.if_icmp .ne 8, 3) := by decide +kernel
theorem dX8_run_84 : decode cX8_run 84 = .ok (.iconst 4, 1) := by decide +kernel
theorem dX8_run_85 : decode cX8_run 85 = .ok (.istore_n 3, 1) := by decide +kernel
theorem dX8_run_86 : decode cX8_run 86 = .ok (.goto 43, 3) := by decide +kernel
theorem dX8_run_89 : decode cX8_run 89 = .ok (.iload 4, 2) := by decide +kernel
theorem dX8_run_91 : decode cX8_run 91 = .ok (.iconst 2, 1) := by decide +kernel
theorem dX8_run_92 : decode cX8_run 92 = .ok (.if_icmp .ne 15, 3) := by decide +kernel
theorem dX8_run_95 : decode cX8_run 95 = .ok (.aload_n 0, 1) := by decide +kernel
theorem dX8_run_96 : decode cX8_run 96 = .ok (.invokevirtual 343, 3) := by decide +kernel
theorem dX8_run_99 : decode cX8_run 99 = .ok (.ifCond .eq 8, 3) := by decide +kernel
theorem dX8_run_102 : decode cX8_run 102 = .ok (.iconst 2, 1) := by decide +kernel
theorem dX8_run_103 : decode cX8_run 103 = .ok (.istore_n 3, 1) := by decide +kernel
theorem dX8_run_104 : decode cX8_run 104 = .ok (.goto 25, 3) := by decide +kernel
theorem dX8_run_107 : decode cX8_run 107 = .ok (.aload_n 0, 1) := by decide +kernel
theorem dX8_run_108 : decode cX8_run 108 = .ok (.iload 4, 2) := by decide +kernel
theorem dX8_run_110 : decode cX8_run 110 = .ok (.aload_n 0, 1) := by decide +kernel
theorem dX8_run_111 : decode cX8_run 111 = .ok (.getfield 315, 3) := by decide +kernel
theorem dX8_run_114 : decode cX8_run 114 = .ok (.aload_n 0, 1) := by decide +kernel
theorem dX8_run_115 : decode cX8_run 115 = .ok (.getfield 318, 3) := by decide +kernel
theorem dX8_run_118 : decode cX8_run 118 = .ok (.invokevirtual 347, 3) := by decide +kernel
theorem dX8_run_121 : decode cX8_run 121 = .ok (.iinc 2 (-1), 3) := by decide +kernel
theorem dX8_run_124 : decode cX8_run 124 = .ok (.aload_n 0, 1) := by decide +kernel
theorem dX8_run_125 : decode cX8_run 125 = .ok (.invokevirtual 337, 3) := by decide +kernel
theorem dX8_run_128 : decode cX8_run 128 = .ok (.istore_n 3, 1) := by decide +kernel
theorem dX8_run_129 : decode cX8_run 129 = .ok (.goto (-88), 3) := by decide +kernel
theorem dX8_run_132 : decode cX8_run 132 = .ok (.aload_n 0, 1) := by decide +kernel
theorem dX8_run_133 : decode cX8_run 133 = .ok (.iload_n 3, 1) := by decide +kernel
theorem dX8_run_134 : decode cX8_run 134 = .ok (.ifCond .ne 10, 3) := by decide +kernel
theorem dX8_run_137 : decode cX8_run 137 = .ok (.aload_n 0, 1) := by decide +kernel
theorem dX8_run_138 : decode cX8_run 138 = .ok (.getfield 272, 3) := by decide +kernel
theorem dX8_run_141 : decode cX8_run 141 = .ok (.goto 4, 3) := by decide +kernel
theorem dX8_run_144 : decode cX8_run 144 = .ok (.iconst 0, 1) := by decide +kernel
theorem dX8_run_145 : decode cX8_run 145 = .ok (.putfield 156, 3) := by decide +kernel
theorem dX8_run_148 : decode cX8_run 148 = .ok (.iload_n 3, 1) := by decide +kernel
theorem dX8_run_149 : decode cX8_run 149 = .ok (.ireturn, 1) := by decide +kernel
theorem dX8_count_0 : decode cX8_count 0 = .ok (.aload_n 0, 1) := by decide +kernel
theorem dX8_count_1 : decode cX8_count 1 = .ok (.iload_n 1, 1) := by decide +kernel
theorem dX8_count_2 : decode cX8_count 2 = .ok (.ifCond .lt 9, 3) := by decide +kernel
theorem dX8_count_5 : decode cX8_count 5 = .ok (.iload_n 1, 1) := by decide +kernel
theorem dX8_count_6 : decode cX8_count 6 = .ok (.bipush 7, 2) := by decide +kernel
theorem dX8_count_8 : decode cX8_count 8 = .ok (.if_icmp .le 7, 3) := by decide +kernel
theorem dX8_count_11 : decode cX8_count 11 = .ok (.iconst 1, 1) := by decide +kernel
theorem dX8_count_12 : decode cX8_count 12 = .ok (.goto 4, 3) := by decide +kernel
theorem dX8_count_15 : decode cX8_count 15 = .ok (.iconst 0, 1) := by decide +kernel
theorem dX8_count_16 : decode cX8_count 16 = .ok (.putfield 1, 3) := by decide +kernel
theorem dX8_count_19 : decode cX8_count 19 = .ok (.iload_n 1, 1) := by decide +kernel
theorem dX8_count_20 : decode cX8_count 20 = .ok (.tableswitch 88 0 7 #[48, 53, 58, 63, 68, 73, 78, 83], 48) := by decide +kernel
theorem dX8_count_68 : decode cX8_count 68 = .ok (.aload_n 0, 1) := by decide +kernel
theorem dX8_count_69 : decode cX8_count 69 = .ok (.getfield 17, 3) := by decide +kernel
theorem dX8_count_72 : decode cX8_count 72 = .ok (.ireturn, 1) := by decide +kernel
theorem dX8_count_73 : decode cX8_count 73 = .ok (.aload_n 0, 1) := by decide +kernel
theorem dX8_count_74 : decode cX8_count 74 = .ok (.getfield 144, 3) := by decide +kernel
theorem dX8_count_77 : decode cX8_count 77 = .ok (.ireturn, 1) := by decide +kernel
theorem dX8_count_78 : decode cX8_count 78 = .ok (.aload_n 0, 1) := by decide +kernel
theorem dX8_count_79 : decode cX8_count 79 = .ok (.getfield 147, 3) := by decide +kernel
theorem dX8_count_82 : decode cX8_count 82 = .ok (.ireturn, 1) := by decide +kernel
theorem dX8_count_83 : decode cX8_count 83 = .ok (.aload_n 0, 1) := by decide +kernel
theorem dX8_count_84 : decode cX8_count 84 = .ok (.getfield 150, 3) := by decide +kernel
theorem dX8_count_87 : decode cX8_count 87 = .ok (.ireturn, 1) := by decide +kernel
theorem dX8_count_88 : decode cX8_count 88 = .ok (.aload_n 0, 1) := by decide +kernel
theorem dX8_count_89 : decode cX8_count 89 = .ok (.getfield 153, 3) := by decide +kernel
theorem dX8_count_92 : decode cX8_count 92 = .ok (.ireturn, 1) := by decide +kernel
theorem dX8_count_93 : decode cX8_count 93 = .ok (.aload_n 0, 1) := by decide +kernel
theorem dX8_count_94 : decode cX8_count 94 = .ok (.getfield 104, 3) := by decide +kernel
theorem dX8_count_97 : decode cX8_count 97 = .ok (.ireturn, 1) := by decide +kernel
theorem dX8_count_98 : decode cX8_count 98 = .ok (.aload_n 0, 1) := by decide +kernel
theorem dX8_count_99 : decode cX8_count 99 = .ok (.getfield 156, 3) := by decide +kernel
theorem dX8_count_102 : decode cX8_count 102 = .ok (.ireturn, 1) := by decide +kernel
theorem dX8_count_103 : decode cX8_count 103 = .ok (.aload_n 0, 1) := by decide +kernel
theorem dX8_count_104 : decode cX8_count 104 = .ok (.getfield 7, 3) := by decide +kernel
theorem dX8_count_107 : decode cX8_count 107 = .ok (.ireturn, 1) := by decide +kernel
theorem dX8_count_108 : decode cX8_count 108 = .ok (.iconst 0, 1) := by decide +kernel
theorem dX8_count_109 : decode cX8_count 109 = .ok (.ireturn, 1) := by decide +kernel
theorem dX8_letter_0 : decode cX8_letter 0 = .ok (.aload_n 0, 1) := by decide +kernel
theorem dX8_letter_1 : decode cX8_letter 1 = .ok (.iload_n 1, 1) := by decide +kernel
theorem dX8_letter_2 : decode cX8_letter 2 = .ok (.ifCond .lt 11, 3) := by decide +kernel
theorem dX8_letter_5 : decode cX8_letter 5 = .ok (.iload_n 1, 1) := by decide +kernel
theorem dX8_letter_6 : decode cX8_letter 6 = .ok (.aload_n 0, 1) := by decide +kernel
theorem dX8_letter_7 : decode cX8_letter 7 = .ok (.getfield 156, 3) := by decide +kernel
theorem dX8_letter_10 : decode cX8_letter 10 = .ok (.if_icmp .lt 7, 3) := by decide +kernel
theorem dX8_letter_13 : decode cX8_letter 13 = .ok (.iconst 1, 1) := by decide +kernel
theorem dX8_letter_14 : decode cX8_letter 14 = .ok (.goto 4, 3) := by decide +kernel
theorem dX8_letter_17 : decode cX8_letter 17 = .ok (.iconst 0, 1) := by decide +kernel
theorem dX8_letter_18 : decode cX8_letter 18 = .ok (.putfield 1, 3) := by decide +kernel
theorem dX8_letter_21 : decode cX8_letter 21 = .ok (.aload_n 0, 1) := by decide +kernel
theorem dX8_letter_22 : decode cX8_letter 22 = .ok (.getfield 1, 3) := by decide +kernel
theorem dX8_letter_25 : decode cX8_letter 25 = .ok (.ifCond .le 7, 3) := by decide +kernel
theorem dX8_letter_28 : decode cX8_letter 28 = .ok (.iconst 0, 1) := by decide +kernel
theorem dX8_letter_29 : decode cX8_letter 29 = .ok (.goto 9, 3) := by decide +kernel
theorem dX8_letter_32 : decode cX8_letter 32 = .ok (.aload_n 0, 1) := by decide +kernel
theorem dX8_letter_33 : decode cX8_letter 33 = .ok (.getfield 198, 3) := by decide +kernel
theorem dX8_letter_36 : decode cX8_letter 36 = .ok (.iload_n 1, 1) := by decide +kernel
theorem dX8_letter_37 : decode cX8_letter 37 = .ok (.baload, 1) := by decide +kernel
theorem dX8_letter_38 : decode cX8_letter 38 = .ok (.ireturn, 1) := by decide +kernel
theorem dX8_nodes_0 : decode cX8_nodes 0 = .ok (.aload_n 0, 1) := by decide +kernel
theorem dX8_nodes_1 : decode cX8_nodes 1 = .ok (.iload_n 1, 1) := by decide +kernel
theorem dX8_nodes_2 : decode cX8_nodes 2 = .ok (.ifCond .lt 8, 3) := by decide +kernel
theorem dX8_nodes_5 : decode cX8_nodes 5 = .ok (.iload_n 1, 1) := by decide +kernel
theorem dX8_nodes_6 : decode cX8_nodes 6 = .ok (.iconst 5, 1) := by decide +kernel
theorem dX8_nodes_7 : decode cX8_nodes 7 = .ok (.if_icmp .le 7, 3) := by decide +kernel
theorem dX8_nodes_10 : decode cX8_nodes 10 = .ok (.iconst 1, 1) := by decide +kernel
theorem dX8_nodes_11 : decode cX8_nodes 11 = .ok (.goto 4, 3) := by decide +kernel
theorem dX8_nodes_14 : decode cX8_nodes 14 = .ok (.iconst 0, 1) := by decide +kernel
theorem dX8_nodes_15 : decode cX8_nodes 15 = .ok (.putfield 1, 3) := by decide +kernel
theorem dX8_nodes_18 : decode cX8_nodes 18 = .ok (.iconst 0, 1) := by decide +kernel
theorem dX8_nodes_19 : decode cX8_nodes 19 = .ok (.istore_n 2, 1) := by decide +kernel
theorem dX8_nodes_20 : decode cX8_nodes 20 = .ok (.iconst 0, 1) := by decide +kernel
theorem dX8_nodes_21 : decode cX8_nodes 21 = .ok (.istore_n 3, 1) := by decide +kernel
theorem dX8_nodes_22 : decode cX8_nodes 22 = .ok (.iload_n 3, 1) := by decide +kernel
theorem dX8_nodes_23 : decode cX8_nodes 23 = .ok (.sipush 3010, 3) := by decide +kernel
theorem dX8_nodes_26 : decode cX8_nodes 26 = .ok (.if_icmp .ge 27, 3) := by decide +kernel
theorem dX8_nodes_29 : decode cX8_nodes 29 = .ok (.iload_n 2, 1) := by decide +kernel
theorem dX8_nodes_30 : decode cX8_nodes 30 = .ok (.aload_n 0, 1) := by decide +kernel
theorem dX8_nodes_31 : decode cX8_nodes 31 = .ok (.getfield 98, 3) := by decide +kernel
theorem dX8_nodes_34 : decode cX8_nodes 34 = .ok (.iload_n 3, 1) := by decide +kernel
theorem dX8_nodes_35 : decode cX8_nodes 35 = .ok (.iaload, 1) := by decide +kernel
theorem dX8_nodes_36 : decode cX8_nodes 36 = .ok (.iload_n 1, 1) := by decide +kernel
theorem dX8_nodes_37 : decode cX8_nodes 37 = .ok (.if_icmp .ne 7, 3) := by decide +kernel
theorem dX8_nodes_40 : decode cX8_nodes 40 = .ok (.iconst 1, 1) := by decide +kernel
theorem dX8_nodes_41 : decode cX8_nodes 41 = .ok (.goto 4, 3) := by decide +kernel
theorem dX8_nodes_44 : decode cX8_nodes 44 = .ok (.iconst 0, 1) := by decide +kernel
theorem dX8_nodes_45 : decode cX8_nodes 45 = .ok (.iadd, 1) := by decide +kernel
theorem dX8_nodes_46 : decode cX8_nodes 46 = .ok (.istore_n 2, 1) := by decide +kernel
theorem dX8_nodes_47 : decode cX8_nodes 47 = .ok (.iinc 3 1, 3) := by decide +kernel
theorem dX8_nodes_50 : decode cX8_nodes 50 = .ok (.goto (-28), 3) := by decide +kernel
theorem dX8_nodes_53 : decode cX8_nodes 53 = .ok (.aload_n 0, 1) := by decide +kernel
theorem dX8_nodes_54 : decode cX8_nodes 54 = .ok (.getfield 1, 3) := by decide +kernel
theorem dX8_nodes_57 : decode cX8_nodes 57 = .ok (.ifCond .le 7, 3) := by decide +kernel
theorem dX8_nodes_60 : decode cX8_nodes 60 = .ok (.iconst 0, 1) := by decide +kernel
theorem dX8_nodes_61 : decode cX8_nodes 61 = .ok (.goto 4, 3) := by decide +kernel
theorem dX8_nodes_64 : decode cX8_nodes 64 = .ok (.iload_n 2, 1) := by decide +kernel
theorem dX8_nodes_65 : decode cX8_nodes 65 = .ok (.ireturn, 1) := by decide +kernel
