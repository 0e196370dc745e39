theorem dX8_thrown_0 : decode cX8_thrown 0 = .ok (.aload_n 0, 1) := by decide +kernel
theorem dX8_thrown_1 : decode cX8_thrown 1 = .ok (.getfield 1, 3) := by decide +kernel
theorem dX8_thrown_4 : decode cX8_thrown 4 = .ok (.ireturn, 1) := by decide +kernel
theorem dX8_type_0 : decode cX8_type 0 = .ok (.aload_n 0, 1) := by decide +kernel
theorem dX8_type_1 : decode cX8_type 1 = .ok (.iload_n 3, 1) := by decide +kernel
theorem dX8_type_2 : decode cX8_type 2 = .ok (.iconst 1, 1) := by decide +kernel
theorem dX8_type_3 : decode cX8_type 3 = .ok (.if_icmp .lt 9, 3) := by decide +kernel
theorem dX8_type_6 : decode cX8_type 6 = .ok (.iload_n 3, 1) := by decide +kernel
theorem dX8_type_7 : decode cX8_type 7 = .ok (.bipush 8, 2) := by decide +kernel
theorem dX8_type_9 : decode cX8_type 9 = .ok (.if_icmp .le 7, 3) := by decide +kernel
theorem dX8_type_12 : decode cX8_type 12 = .ok (.iconst 1, 1) := by decide +kernel
theorem dX8_type_13 : decode cX8_type 13 = .ok (.goto 20, 3) := by decide +kernel
theorem dX8_type_16 : decode cX8_type 16 = .ok (.aload_n 0, 1) := by decide +kernel
theorem dX8_type_17 : decode cX8_type 17 = .ok (.getfield 7, 3) := by decide +kernel
theorem dX8_type_20 : decode cX8_type 20 = .ok (.iload_n 3, 1) := by decide +kernel
theorem dX8_type_21 : decode cX8_type 21 = .ok (.iadd, 1) := by decide +kernel
theorem dX8_type_22 : decode cX8_type 22 = .ok (.sipush 600, 3) := by decide +kernel
theorem dX8_type_25 : decode cX8_type 25 = .ok (.if_icmp .le 7, 3) := by decide +kernel
theorem dX8_type_28 : decode cX8_type 28 = .ok (.iconst 2, 1) := by decide +kernel
theorem dX8_type_29 : decode cX8_type 29 = .ok (.goto 4, 3) := by decide +kernel
theorem dX8_type_32 : decode cX8_type 32 = .ok (.iconst 0, 1) := by decide +kernel
theorem dX8_type_33 : decode cX8_type 33 = .ok (.putfield 1, 3) := by decide +kernel
theorem dX8_type_36 : decode cX8_type 36 = .ok (.aload_n 0, 1) := by decide +kernel
theorem dX8_type_37 : decode cX8_type 37 = .ok (.getfield 1, 3) := by decide +kernel
theorem dX8_type_40 : decode cX8_type 40 = .ok (.ifCond .le 5, 3) := by decide +kernel
theorem dX8_type_43 : decode cX8_type 43 = .ok (.iconst 0, 1) := by decide +kernel
theorem dX8_type_44 : decode cX8_type 44 = .ok (.ireturn, 1) := by decide +kernel
theorem dX8_type_45 : decode cX8_type 45 = .ok (.iload_n 3, 1) := by decide +kernel
theorem dX8_type_46 : decode cX8_type 46 = .ok (.iconst 1, 1) := by decide +kernel
theorem dX8_type_47 : decode cX8_type 47 = .ok (.isub, 1) := by decide +kernel
theorem dX8_type_48 : decode cX8_type 48 = .ok (.istore 4, 2) := by decide +kernel
theorem dX8_type_50 : decode cX8_type 50 = .ok (.iload 4, 2) := by decide +kernel
theorem dX8_type_52 : decode cX8_type 52 = .ok (.ifCond .lt 37, 3) := by decide +kernel
theorem dX8_type_55 : decode cX8_type 55 = .ok (.aload_n 0, 1) := by decide +kernel
theorem dX8_type_56 : decode cX8_type 56 = .ok (.getfield 10, 3) := by decide +kernel
theorem dX8_type_59 : decode cX8_type 59 = .ok (.aload_n 0, 1) := by decide +kernel
theorem dX8_type_60 : decode cX8_type 60 = .ok (.getfield 7, 3) := by decide +kernel
theorem dX8_type_63 : decode cX8_type 63 = .ok (.lload_n 1, 1) := by decide +kernel
theorem dX8_type_64 : decode cX8_type 64 = .ok (.bipush 8, 2) := by decide +kernel
theorem dX8_type_66 : decode cX8_type 66 = .ok (.iload 4, 2) := by decide +kernel
theorem dX8_type_68 : decode cX8_type 68 = .ok (.imul, 1) := by decide +kernel
theorem dX8_type_69 : decode cX8_type 69 = .ok (.lshr, 1) := by decide +kernel
theorem dX8_type_70 : decode cX8_type 70 = .ok (.l2i, 1) := by decide +kernel
theorem dX8_type_71 : decode cX8_type 71 = .ok (.i2b, 1) := by decide +kernel
theorem dX8_type_72 : decode cX8_type 72 = .ok (.bastore, 1) := by decide +kernel
theorem dX8_type_73 : decode cX8_type 73 = .ok (.aload_n 0, 1) := by decide +kernel
theorem dX8_type_74 : decode cX8_type 74 = .ok (.dup, 1) := by decide +kernel
theorem dX8_type_75 : decode cX8_type 75 = .ok (.getfield 7, 3) := by decide +kernel
theorem dX8_type_78 : decode cX8_type 78 = .ok (.iconst 1, 1) := by decide +kernel
theorem dX8_type_79 : decode cX8_type 79 = .ok (.iadd, 1) := by decide +kernel
theorem dX8_type_80 : decode cX8_type 80 = .ok (.putfield 7, 3) := by decide +kernel
theorem dX8_type_83 : decode cX8_type 83 = .ok (.iinc 4 (-1), 3) := by decide +kernel
theorem dX8_type_86 : decode cX8_type 86 = .ok (.goto (-36), 3) := by decide +kernel
theorem dX8_type_89 : decode cX8_type 89 = .ok (.aload_n 0, 1) := by decide +kernel
theorem dX8_type_90 : decode cX8_type 90 = .ok (.getfield 7, 3) := by decide +kernel
theorem dX8_type_93 : decode cX8_type 93 = .ok (.ireturn, 1) := by decide +kernel
theorem dX8_keep_0 : decode cX8_keep 0 = .ok (.aload_n 0, 1) := by decide +kernel
theorem dX8_keep_1 : decode cX8_keep 1 = .ok (.iload_n 1, 1) := by decide +kernel
theorem dX8_keep_2 : decode cX8_keep 2 = .ok (.ifCond .lt 11, 3) := by decide +kernel
theorem dX8_keep_5 : decode cX8_keep 5 = .ok (.iload_n 1, 1) := by decide +kernel
theorem dX8_keep_6 : decode cX8_keep 6 = .ok (.aload_n 0, 1) := by decide +kernel
theorem dX8_keep_7 : decode cX8_keep 7 = .ok (.getfield 7, 3) := by decide +kernel
theorem dX8_keep_10 : decode cX8_keep 10 = .ok (.if_icmp .le 7, 3) := by decide +kernel
theorem dX8_keep_13 : decode cX8_keep 13 = .ok (.iconst 1, 1) := by decide +kernel
theorem dX8_keep_14 : decode cX8_keep 14 = .ok (.goto 4, 3) := by decide +kernel
theorem dX8_keep_17 : decode cX8_keep 17 = .ok (.iconst 0, 1) := by decide +kernel
theorem dX8_keep_18 : decode cX8_keep 18 = .ok (.putfield 1, 3) := by decide +kernel
theorem dX8_keep_21 : decode cX8_keep 21 = .ok (.aload_n 0, 1) := by decide +kernel
theorem dX8_keep_22 : decode cX8_keep 22 = .ok (.aload_n 0, 1) := by decide +kernel
theorem dX8_keep_23 : decode cX8_keep 23 = .ok (.getfield 1, 3) := by decide +kernel
theorem dX8_keep_26 : decode cX8_keep 26 = .ok (.ifCond .le 10, 3) := by decide +kernel
theorem dX8_keep_29 : decode cX8_keep 29 = .ok (.aload_n 0, 1) := by decide +kernel
theorem dX8_keep_30 : decode cX8_keep 30 = .ok (.getfield 7, 3) := by decide +kernel
theorem dX8_keep_33 : decode cX8_keep 33 = .ok (.goto 4, 3) := by decide +kernel
theorem dX8_keep_36 : decode cX8_keep 36 = .ok (.iload_n 1, 1) := by decide +kernel
theorem dX8_keep_37 : decode cX8_keep 37 = .ok (.putfield 7, 3) := by decide +kernel
theorem dX8_keep_40 : decode cX8_keep 40 = .ok (.return_, 1) := by decide +kernel
theorem dX8_look_0 : decode cX8_look 0 = .ok (.aload_n 0, 1) := by decide +kernel
theorem dX8_look_1 : decode cX8_look 1 = .ok (.getfield 14, 3) := by decide +kernel
theorem dX8_look_4 : decode cX8_look 4 = .ok (.aload_n 0, 1) := by decide +kernel
theorem dX8_look_5 : decode cX8_look 5 = .ok (.getfield 7, 3) := by decide +kernel
theorem dX8_look_8 : decode cX8_look 8 = .ok (.if_icmp .ge 72, 3) := by decide +kernel
theorem dX8_look_11 : decode cX8_look 11 = .ok (.aload_n 0, 1) := by decide +kernel
theorem dX8_look_12 : decode cX8_look 12 = .ok (.getfield 10, 3) := by decide +kernel
theorem dX8_look_15 : decode cX8_look 15 = .ok (.aload_n 0, 1) := by decide +kernel
theorem dX8_look_16 : decode cX8_look 16 = .ok (.getfield 14, 3) := by decide +kernel
theorem dX8_look_19 : decode cX8_look 19 = .ok (.baload, 1) := by decide +kernel
theorem dX8_look_20 : decode cX8_look 20 = .ok (.bipush 9, 2) := by decide +kernel
theorem dX8_look_22 : decode cX8_look 22 = .ok (.if_icmp .eq 45, 3) := by decide +kernel
theorem dX8_look_25 : decode cX8_look 25 = .ok (.aload_n 0, 1) := by decide +kernel
theorem dX8_look_26 : decode cX8_look 26 = .ok (.getfield 10, 3) := by decide +kernel
theorem dX8_look_29 : decode cX8_look 29 = .ok (.aload_n 0, 1) := by decide +kernel
theorem dX8_look_30 : decode cX8_look 30 = .ok (.getfield 14, 3) := by decide +kernel
theorem dX8_look_33 : decode cX8_look 33 = .ok (.baload, 1) := by decide +kernel
theorem dX8_look_34 : decode cX8_look 34 = .ok (.bipush 10, 2) := by decide +kernel
theorem dX8_look_36 : decode cX8_look 36 = .ok (.if_icmp .eq 31, 3) := by decide +kernel
theorem dX8_look_39 : decode cX8_look 39 = .ok (.aload_n 0, 1) := by decide +kernel
theorem dX8_look_40 : decode cX8_look 40 = .ok (.getfield 10, 3) := by decide +kernel
theorem dX8_look_43 : decode cX8_look 43 = .ok (.aload_n 0, 1) := by decide +kernel
theorem dX8_look_44 : decode cX8_look 44 = .ok (.getfield 14, 3) := by decide +kernel
theorem dX8_look_47 : decode cX8_look 47 = .ok (.baload, 1) := by decide +kernel
theorem dX8_look_48 : decode cX8_look 48 = .ok (.bipush 13, 2) := by decide +kernel
theorem dX8_look_50 : decode cX8_look 50 = .ok (.if_icmp .eq 17, 3) := by decide +kernel
theorem dX8_look_53 : decode cX8_look 53 = .ok (.aload_n 0, 1) := by decide +kernel
theorem dX8_look_54 : decode cX8_look 54 = .ok (.getfield 10, 3) := by decide +kernel
theorem dX8_look_57 : decode cX8_look 57 = .ok (.aload_n 0, 1) := by decide +kernel
theorem dX8_look_58 : decode cX8_look 58 = .ok (.getfield 14, 3) := by decide +kernel
theorem dX8_look_61 : decode cX8_look 61 = .ok (.baload, 1) := by decide +kernel
theorem dX8_look_62 : decode cX8_look 62 = .ok (.bipush 32, 2) := by decide +kernel
theorem dX8_look_64 : decode cX8_look 64 = .ok (.if_icmp .ne 16, 3) := by decide +kernel
theorem dX8_look_67 : decode cX8_look 67 = .ok (.aload_n 0, 1) := by decide +kernel
theorem dX8_look_68 : decode cX8_look 68 = .ok (.dup, 1) := by decide +kernel
theorem dX8_look_69 : decode cX8_look 69 = .ok (.getfield 14, 3) := by decide +kernel
theorem dX8_look_72 : decode cX8_look 72 = .ok (.iconst 1, 1) := by decide +kernel
theorem dX8_look_73 : decode cX8_look 73 = .ok (.iadd, 1) := by decide +kernel
theorem dX8_look_74 : decode cX8_look 74 = .ok (.putfield 14, 3) := by decide +kernel
theorem dX8_look_77 : decode cX8_look 77 = .ok (.goto (-77), 3) := by decide +kernel
theorem dX8_look_80 : decode cX8_look 80 = .ok (.aload_n 0, 1) := by decide +kernel
theorem dX8_look_81 : decode cX8_look 81 = .ok (.getfield 14, 3) := by decide +kernel
theorem dX8_look_84 : decode cX8_look 84 = .ok (.aload_n 0, 1) := by decide +kernel
theorem dX8_look_85 : decode cX8_look 85 = .ok (.getfield 7, 3) := by decide +kernel
theorem dX8_look_88 : decode cX8_look 88 = .ok (.if_icmp .ge 19, 3) := by decide +kernel
theorem dX8_look_91 : decode cX8_look 91 = .ok (.aload_n 0, 1) := by decide +kernel
theorem dX8_look_92 : decode cX8_look 92 = .ok (.getfield 10, 3) := by decide +kernel
theorem dX8_look_95 : decode cX8_look 95 = .ok (.aload_n 0, 1) := by decide +kernel
theorem dX8_look_96 : decode cX8_look 96 = .ok (.getfield 14, 3) := by decide +kernel
theorem dX8_look_99 : decode cX8_look 99 = .ok (.baload, 1) := by decide +kernel
theorem dX8_look_100 : decode cX8_look 100 = .ok (.sipush 255, 3) := by decide +kernel
theorem dX8_look_103 : decode cX8_look 103 = .ok (.iand, 1) := by decide +kernel
theorem dX8_look_104 : decode cX8_look 104 = .ok (.goto 4, 3) := by decide +kernel
theorem dX8_look_107 : decode cX8_look 107 = .ok (.iconst (-1), 1) := by decide +kernel
theorem dX8_look_108 : decode cX8_look 108 = .ok (.ireturn, 1) := by decide +kernel
theorem dX8_bad_0 : decode cX8_bad 0 = .ok (.aload_n 0, 1) := by decide +kernel
theorem dX8_bad_1 : decode cX8_bad 1 = .ok (.getfield 17, 3) := by decide +kernel
theorem dX8_bad_4 : decode cX8_bad 4 = .ok (.ifCond .ne 13, 3) := by decide +kernel
theorem dX8_bad_7 : decode cX8_bad 7 = .ok (.aload_n 0, 1) := by decide +kernel
theorem dX8_bad_8 : decode cX8_bad 8 = .ok (.iload_n 1, 1) := by decide +kernel
theorem dX8_bad_9 : decode cX8_bad 9 = .ok (.putfield 17, 3) := by decide +kernel
theorem dX8_bad_12 : decode cX8_bad 12 = .ok (.aload_n 0, 1) := by decide +kernel
theorem dX8_bad_13 : decode cX8_bad 13 = .ok (.iload_n 2, 1) := by decide +kernel
theorem dX8_bad_14 : decode cX8_bad 14 = .ok (.putfield 14, 3) := by decide +kernel
theorem dX8_bad_17 : decode cX8_bad 17 = .ok (.return_, 1) := by decide +kernel
theorem dX8_tree_0 : decode cX8_tree 0 = .ok (.aload_n 0, 1) := by decide +kernel
theorem dX8_tree_1 : decode cX8_tree 1 = .ok (.getfield 20, 3) := by decide +kernel
theorem dX8_tree_4 : decode cX8_tree 4 = .ok (.aload_n 0, 1) := by decide +kernel
theorem dX8_tree_5 : decode cX8_tree 5 = .ok (.getfield 24, 3) := by decide +kernel
theorem dX8_tree_8 : decode cX8_tree 8 = .ok (.iload_n 1, 1) := by decide +kernel
theorem dX8_tree_9 : decode cX8_tree 9 = .ok (.iastore, 1) := by decide +kernel
theorem dX8_tree_10 : decode cX8_tree 10 = .ok (.aload_n 0, 1) := by decide +kernel
theorem dX8_tree_11 : decode cX8_tree 11 = .ok (.getfield 27, 3) := by decide +kernel
theorem dX8_tree_14 : decode cX8_tree 14 = .ok (.aload_n 0, 1) := by decide +kernel
theorem dX8_tree_15 : decode cX8_tree 15 = .ok (.getfield 24, 3) := by decide +kernel
theorem dX8_tree_18 : decode cX8_tree 18 = .ok (.iload_n 2, 1) := by decide +kernel
theorem dX8_tree_19 : decode cX8_tree 19 = .ok (.iastore, 1) := by decide +kernel
theorem dX8_tree_20 : decode cX8_tree 20 = .ok (.aload_n 0, 1) := by decide +kernel
theorem dX8_tree_21 : decode cX8_tree 21 = .ok (.getfield 30, 3) := by decide +kernel
theorem dX8_tree_24 : decode cX8_tree 24 = .ok (.aload_n 0, 1) := by decide +kernel
theorem dX8_tree_25 : decode cX8_tree 25 = .ok (.getfield 24, 3) := by decide +kernel
theorem dX8_tree_28 : decode cX8_tree 28 = .ok (.iload_n 3, 1) := by decide +kernel
theorem dX8_tree_29 : decode cX8_tree 29 = .ok (.iastore, 1) := by decide +kernel
theorem dX8_tree_30 : decode cX8_tree 30 = .ok (.aload_n 0, 1) := by decide +kernel
theorem dX8_tree_31 : decode cX8_tree 31 = .ok (.dup, 1) := by decide +kernel
theorem dX8_tree_32 : decode cX8_tree 32 = .ok (.getfield 24, 3) := by decide +kernel
theorem dX8_tree_35 : decode cX8_tree 35 = .ok (.iconst 1, 1) := by decide +kernel
theorem dX8_tree_36 : decode cX8_tree 36 = .ok (.iadd, 1) := by decide +kernel
theorem dX8_tree_37 : decode cX8_tree 37 = .ok (.putfield 24, 3) := by decide +kernel
theorem dX8_tree_40 : decode cX8_tree 40 = .ok (.aload_n 0, 1) := by decide +kernel
theorem dX8_tree_41 : decode cX8_tree 41 = .ok (.getfield 24, 3) := by decide +kernel
theorem dX8_tree_44 : decode cX8_tree 44 = .ok (.iconst 1, 1) := by decide +kernel
theorem dX8_tree_45 : decode cX8_tree 45 = .ok (.isub, 1) := by decide +kernel
theorem dX8_tree_46 : decode cX8_tree 46 = .ok (.ireturn, 1) := by decide +kernel
theorem dX8_isLetter_0 : decode cX8_isLetter 0 = .ok (.iload_n 0, 1) := by decide +kernel
theorem dX8_isLetter_1 : decode cX8_isLetter 1 = .ok (.bipush 97, 2) := by decide +kernel
theorem dX8_isLetter_3 : decode cX8_isLetter 3 = .ok (.if_icmp .lt 13, 3) := by decide +kernel
theorem dX8_isLetter_6 : decode cX8_isLetter 6 = .ok (.iload_n 0, 1) := by decide +kernel
theorem dX8_isLetter_7 : decode cX8_isLetter 7 = .ok (.bipush 122, 2) := by decide +kernel
theorem dX8_isLetter_9 : decode cX8_isLetter 9 = .ok (.if_icmp .gt 7, 3) := by decide +kernel
theorem dX8_isLetter_12 : decode cX8_isLetter 12 = .ok (.iconst 1, 1) := by decide +kernel
theorem dX8_isLetter_13 : decode cX8_isLetter 13 = .ok (.goto 4, 3) := by decide +kernel
theorem dX8_isLetter_16 : decode cX8_isLetter 16 = .ok (.iconst 0, 1) := by decide +kernel
theorem dX8_isLetter_17 : decode cX8_isLetter 17 = .ok (.ireturn, 1) := by decide +kernel
set_option maxRecDepth 20000 in
theorem ggX8_name_X8_isLetter : GoodIn wsX8_name wsX8_isLetter := goodIn_r _ [11] (by decide +kernel) (by decide +kernel)
set_option maxRecDepth 20000 in
theorem gX8_name_X8_isLetter : GoodIn wsX8_name (va_wsS RX8 33 yX8_isLetter wsX8_isLetter) := goodIn_app (goodIn_of _ (by decide +kernel)) ggX8_name_X8_isLetter
set_option maxRecDepth 20000 in
theorem ggX8_name_X8_bad : GoodIn wsX8_name wsX8_bad := goodIn_r _ [15, 16, 1, 17, 18, 19, 20, 21, 22, 23, 24, 25, 26, 27, 28, 29, 30, 31, 32, 33, 34, 35, 36, 37, 38, 39, 40, 41, 42, 43, 44, 45, 46, 47, 48, 49, 50, 51, 52, 53, 54, 55, 56, 57, 58, 59, 60, 61, 62, 63, 64, 65, 66, 67, 68, 69, 70, 71, 72, 73, 74] (by decide +kernel) (by decide +kernel)
set_option maxRecDepth 20000 in
theorem gX8_name_X8_bad : GoodIn wsX8_name (wsV RX8 46 RX8 yX8_bad wsX8_bad) := goodIn_app (goodIn_of _ (by decide +kernel)) ggX8_name_X8_bad
theorem dX8_name_0 : decode cX8_name 0 = .ok (.aload_n 0, 1) := by decide +kernel
theorem dX8_name_1 : decode cX8_name 1 = .ok (.getfield 14, 3) := by decide +kernel
theorem dX8_name_4 : decode cX8_name 4 = .ok (.istore_n 2, 1) := by decide +kernel
theorem dX8_name_5 : decode cX8_name 5 = .ok (.iconst 0, 1) := by decide +kernel
theorem dX8_name_6 : decode cX8_name 6 = .ok (.istore_n 3, 1) := by decide +kernel
theorem dX8_name_7 : decode cX8_name 7 = .ok (.iconst 0, 1) := by decide +kernel
theorem dX8_name_8 : decode cX8_name 8 = .ok (.istore 4, 2) := by decide +kernel
theorem dX8_name_10 : decode cX8_name 10 = .ok (.aload_n 0, 1) := by decide +kernel
theorem dX8_name_11 : decode cX8_name 11 = .ok (.getfield 14, 3) := by decide +kernel
theorem dX8_name_14 : decode cX8_name 14 = .ok (.aload_n 0, 1) := by decide +kernel
theorem dX8_name_15 : decode cX8_name 15 = .ok (.getfield 7, 3) := by decide +kernel
theorem dX8_name_18 : decode cX8_name 18 = .ok (.if_icmp .ge 85, 3) := by decide +kernel
theorem dX8_name_21 : decode cX8_name 21 = .ok (.iload 4, 2) := by decide +kernel
theorem dX8_name_23 : decode cX8_name 23 = .ok (.ifCond .ne 21, 3) := by decide +kernel
theorem dX8_name_26 : decode cX8_name 26 = .ok (.aload_n 0, 1) := by decide +kernel
theorem dX8_name_27 : decode cX8_name 27 = .ok (.getfield 10, 3) := by decide +kernel
theorem dX8_name_30 : decode cX8_name 30 = .ok (.aload_n 0, 1) := by decide +kernel
theorem dX8_name_31 : decode cX8_name 31 = .ok (.getfield 14, 3) := by decide +kernel
theorem dX8_name_34 : decode cX8_name 34 = .ok (.baload, 1) := by decide +kernel
theorem dX8_name_35 : decode cX8_name 35 = .ok (.invokestatic 33, 3) := by decide +kernel
theorem dX8_name_38 : decode cX8_name 38 = .ok (.ifCond .eq 65, 3) := by decide +kernel
theorem dX8_name_41 : decode cX8_name 41 = .ok (.goto 31, 3) := by decide +kernel
theorem dX8_name_44 : decode cX8_name 44 = .ok (.aload_n 0, 1) := by decide +kernel
theorem dX8_name_45 : decode cX8_name 45 = .ok (.getfield 10, 3) := by decide +kernel
theorem dX8_name_48 : decode cX8_name 48 = .ok (.aload_n 0, 1) := by decide +kernel
theorem dX8_name_49 : decode cX8_name 49 = .ok (.getfield 14, 3) := by decide +kernel
theorem dX8_name_52 : decode cX8_name 52 = .ok (.baload, 1) := by decide +kernel
theorem dX8_name_53 : decode cX8_name 53 = .ok (.bipush 48, 2) := by decide +kernel
theorem dX8_name_55 : decode cX8_name 55 = .ok (.if_icmp .lt 48, 3) := by decide +kernel
theorem dX8_name_58 : decode cX8_name 58 = .ok (.aload_n 0, 1) := by decide +kernel
theorem dX8_name_59 : decode cX8_name 59 = .ok (.getfield 10, 3) := by decide +kernel
theorem dX8_name_62 : decode cX8_name 62 = .ok (.aload_n 0, 1) := by decide +kernel
theorem dX8_name_63 : decode cX8_name 63 = .ok (.getfield 14, 3) := by decide +kernel
theorem dX8_name_66 : decode cX8_name 66 = .ok (.baload, 1) := by decide +kernel
theorem dX8_name_67 : decode cX8_name 67 = .ok (.bipush 57, 2) := by decide +kernel
theorem dX8_name_69 : decode cX8_name 69 = .ok (.if_icmp .gt 34, 3) := by decide +kernel
theorem dX8_name_72 : decode cX8_name 72 = .ok (.iload_n 3, 1) := by decide +kernel
theorem dX8_name_73 : decode cX8_name 73 = .ok (.bipush 8, 2) := by decide +kernel
theorem dX8_name_75 : decode cX8_name 75 = .ok (.ishl, 1) := by decide +kernel
theorem dX8_name_76 : decode cX8_name 76 = .ok (.aload_n 0, 1) := by decide +kernel
theorem dX8_name_77 : decode cX8_name 77 = .ok (.getfield 10, 3) := by decide +kernel
theorem dX8_name_80 : decode cX8_name 80 = .ok (.aload_n 0, 1) := by decide +kernel
theorem dX8_name_81 : decode cX8_name 81 = .ok (.getfield 14, 3) := by decide +kernel
theorem dX8_name_84 : decode cX8_name 84 = .ok (.baload, 1) := by decide +kernel
theorem dX8_name_85 : decode cX8_name 85 = .ok (.ior, 1) := by decide +kernel
theorem dX8_name_86 : decode cX8_name 86 = .ok (.istore_n 3, 1) := by decide +kernel
theorem dX8_name_87 : decode cX8_name 87 = .ok (.iinc 4 1, 3) := by decide +kernel
theorem dX8_name_90 : decode cX8_name 90 = .ok (.aload_n 0, 1) := by decide +kernel
theorem dX8_name_91 : decode cX8_name 91 = .ok (.dup, 1) := by decide +kernel
theorem dX8_name_92 : decode cX8_name 92 = .ok (.getfield 14, 3) := by decide +kernel
theorem dX8_name_95 : decode cX8_name 95 = .ok (.iconst 1, 1) := by decide +kernel
theorem dX8_name_96 : decode cX8_name 96 = .ok (.iadd, 1) := by decide +kernel
theorem dX8_name_97 : decode cX8_name 97 = .ok (.putfield 14, 3) := by decide +kernel
theorem dX8_name_100 : decode cX8_name 100 = .ok (.goto (-90), 3) := by decide +kernel
theorem dX8_name_103 : decode cX8_name 103 = .ok (.iconst (-1), 1) := by decide +kernel
theorem dX8_name_104 : decode cX8_name 104 = .ok (.istore 5, 2) := by decide +kernel
theorem dX8_name_106 : decode cX8_name 106 = .ok (.iconst 0, 1) := by decide +kernel
theorem dX8_name_107 : decode cX8_name 107 = .ok (.istore 6, 2) := by decide +kernel
theorem dX8_name_109 : decode cX8_name 109 = .ok (.iload 6, 2) := by decide +kernel
theorem dX8_name_111 : decode cX8_name 111 = .ok (.aload_n 0, 1) := by decide +kernel
theorem dX8_name_112 : decode cX8_name 112 = .ok (.getfield 37, 3) := by decide +kernel
theorem dX8_name_115 : decode cX8_name 115 = .ok (.if_icmp .ge 34, 3) := by decide +kernel
theorem dX8_name_118 : decode cX8_name 118 = .ok (.aload_n 0, 1) := by decide +kernel
theorem dX8_name_119 : decode cX8_name 119 = .ok (.getfield 40, 3) := by decide +kernel
theorem dX8_name_122 : decode cX8_name 122 = .ok (.iload 6, 2) := by decide +kernel
theorem dX8_name_124 : decode cX8_name 124 = .ok (.iaload, 1) := by decide +kernel
theorem dX8_name_125 : decode cX8_name 125 = .ok (.iload_n 3, 1) := by decide +kernel
theorem dX8_name_126 : decode cX8_name 126 = .ok (.if_icmp .ne 13, 3) := by decide +kernel
theorem dX8_name_129 : decode cX8_name 129 = .ok (.aload_n 0, 1) := by decide +kernel
theorem dX8_name_130 : decode cX8_name 130 = .ok (.getfield 43, 3) := by decide +kernel
theorem dX8_name_133 : decode cX8_name 133 = .ok (.iload 6, 2) := by decide +kernel
theorem dX8_name_135 : decode cX8_name 135 = .ok (.iaload, 1) := by decide +kernel
theorem dX8_name_136 : decode cX8_name 136 = .ok (.goto 5, 3) := by decide +kernel
theorem dX8_name_139 : decode cX8_name 139 = .ok (.iload 5, 2) := by decide +kernel
theorem dX8_name_141 : decode cX8_name 141 = .ok (.istore 5, 2) := by decide +kernel
theorem dX8_name_143 : decode cX8_name 143 = .ok (.iinc 6 1, 3) := by decide +kernel
theorem dX8_name_146 : decode cX8_name 146 = .ok (.goto (-37), 3) := by decide +kernel
theorem dX8_name_149 : decode cX8_name 149 = .ok (.iload 4, 2) := by decide +kernel
theorem dX8_name_151 : decode cX8_name 151 = .ok (.iconst 4, 1) := by decide +kernel
theorem dX8_name_152 : decode cX8_name 152 = .ok (.if_icmp .le 12, 3) := by decide +kernel
theorem dX8_name_155 : decode cX8_name 155 = .ok (.aload_n 0, 1) := by decide +kernel
theorem dX8_name_156 : decode cX8_name 156 = .ok (.iconst 1, 1) := by decide +kernel
theorem dX8_name_157 : decode cX8_name 157 = .ok (.iload_n 2, 1) := by decide +kernel
theorem dX8_name_158 : decode cX8_name 158 = .ok (.invokevirtual 46, 3) := by decide +kernel
theorem dX8_name_161 : decode cX8_name 161 = .ok (.goto 36, 3) := by decide +kernel
theorem dX8_name_164 : decode cX8_name 164 = .ok (.iload_n 1, 1) := by decide +kernel
theorem dX8_name_165 : decode cX8_name 165 = .ok (.ifCond .ne 17, 3) := by decide +kernel
theorem dX8_name_168 : decode cX8_name 168 = .ok (.iload 5, 2) := by decide +kernel
theorem dX8_name_170 : decode cX8_name 170 = .ok (.ifCond .ge 12, 3) := by decide +kernel
theorem dX8_name_173 : decode cX8_name 173 = .ok (.aload_n 0, 1) := by decide +kernel
theorem dX8_name_174 : decode cX8_name 174 = .ok (.iconst 2, 1) := by decide +kernel
theorem dX8_name_175 : decode cX8_name 175 = .ok (.iload_n 2, 1) := by decide +kernel
theorem dX8_name_176 : decode cX8_name 176 = .ok (.invokevirtual 46, 3) := by decide +kernel
theorem dX8_name_179 : decode cX8_name 179 = .ok (.goto 18, 3) := by decide +kernel
theorem dX8_name_182 : decode cX8_name 182 = .ok (.aload_n 0, 1) := by decide +kernel
theorem dX8_name_183 : decode cX8_name 183 = .ok (.getfield 50, 3) := by decide +kernel
theorem dX8_name_186 : decode cX8_name 186 = .ok (.bipush 80, 2) := by decide +kernel
theorem dX8_name_188 : decode cX8_name 188 = .ok (.if_icmp .ne 9, 3) := by decide +kernel
theorem dX8_name_191 : decode cX8_name 191 = .ok (.aload_n 0, 1) := by decide +kernel
theorem dX8_name_192 : decode cX8_name 192 = .ok (.iconst 4, 1) := by decide +kernel
theorem dX8_name_193 : decode cX8_name 193 = .ok (.iload_n 2, 1) := by decide +kernel
theorem dX8_name_194 : decode cX8_name 194 = .ok (.invokevirtual 46, 3) := by decide +kernel
theorem dX8_name_197 : decode cX8_name 197 = .ok (.aload_n 0, 1) := by decide +kernel
theorem dX8_name_198 : decode cX8_name 198 = .ok (.dup, 1) := by decide +kernel
theorem dX8_name_199 : decode cX8_name 199 = .ok (.getfield 50, 3) := by decide +kernel
theorem dX8_name_202 : decode cX8_name 202 = .ok (.iconst 1, 1) := by decide +kernel
theorem dX8_name_203 : decode cX8_name 203 = .ok (.iadd, 1) := by decide +kernel
theorem dX8_name_204 : decode cX8_name 204 = .ok (.putfield 50, 3) := by decide +kernel
theorem dX8_name_207 : decode cX8_name 207 = .ok (.iload_n 1, 1) := by decide +kernel
theorem dX8_name_208 : decode cX8_name 208 = .ok (.ifCond .eq 7, 3) := by decide +kernel
theorem dX8_name_211 : decode cX8_name 211 = .ok (.iload_n 3, 1) := by decide +kernel
theorem dX8_name_212 : decode cX8_name 212 = .ok (.goto 5, 3) := by decide +kernel
theorem dX8_name_215 : decode cX8_name 215 = .ok (.iload 5, 2) := by decide +kernel
theorem dX8_name_217 : decode cX8_name 217 = .ok (.ireturn, 1) := by decide +kernel
set_option maxRecDepth 20000 in
theorem ggX8_opens_X8_bad : GoodIn wsX8_opens wsX8_bad := goodIn_r _ [9, 10, 2, 11, 12, 13, 14, 15, 16, 17, 18, 19, 20, 21, 22, 23, 24, 25, 26, 27, 28, 29, 30, 31, 32, 33, 34, 35, 36, 37, 38, 39, 40, 41, 42, 43, 44, 45, 46, 47, 48, 49, 50, 51, 52, 53, 54, 55, 56, 57, 58, 59, 60, 61, 62, 63, 64, 65, 66, 67, 68] (by decide +kernel) (by decide +kernel)
set_option maxRecDepth 20000 in
theorem gX8_opens_X8_bad : GoodIn wsX8_opens (wsV RX8 46 RX8 yX8_bad wsX8_bad) := goodIn_app (goodIn_of _ (by decide +kernel)) ggX8_opens_X8_bad
theorem dX8_opens_0 : decode cX8_opens 0 = .ok (.aload_n 0, 1) := by decide +kernel
theorem dX8_opens_1 : decode cX8_opens 1 = .ok (.getfield 53, 3) := by decide +kernel
theorem dX8_opens_4 : decode cX8_opens 4 = .ok (.bipush 40, 2) := by decide +kernel
theorem dX8_opens_6 : decode cX8_opens 6 = .ok (.if_icmp .ne 13, 3) := by decide +kernel
theorem dX8_opens_9 : decode cX8_opens 9 = .ok (.aload_n 0, 1) := by decide +kernel
theorem dX8_opens_10 : decode cX8_opens 10 = .ok (.iconst 3, 1) := by decide +kernel
theorem dX8_opens_11 : decode cX8_opens 11 = .ok (.aload_n 0, 1) := by decide +kernel
theorem dX8_opens_12 : decode cX8_opens 12 = .ok (.getfield 14, 3) := by decide +kernel
theorem dX8_opens_15 : decode cX8_opens 15 = .ok (.invokevirtual 46, 3) := by decide +kernel
theorem dX8_opens_18 : decode cX8_opens 18 = .ok (.return_, 1) := by decide +kernel
theorem dX8_opens_19 : decode cX8_opens 19 = .ok (.aload_n 0, 1) := by decide +kernel
theorem dX8_opens_20 : decode cX8_opens 20 = .ok (.getfield 56, 3) := by decide +kernel
theorem dX8_opens_23 : decode cX8_opens 23 = .ok (.aload_n 0, 1) := by decide +kernel
theorem dX8_opens_24 : decode cX8_opens 24 = .ok (.getfield 53, 3) := by decide +kernel
theorem dX8_opens_27 : decode cX8_opens 27 = .ok (.iload_n 1, 1) := by decide +kernel
theorem dX8_opens_28 : decode cX8_opens 28 = .ok (.iastore, 1) := by decide +kernel
theorem dX8_opens_29 : decode cX8_opens 29 = .ok (.aload_n 0, 1) := by decide +kernel
theorem dX8_opens_30 : decode cX8_opens 30 = .ok (.getfield 59, 3) := by decide +kernel
theorem dX8_opens_33 : decode cX8_opens 33 = .ok (.aload_n 0, 1) := by decide +kernel
theorem dX8_opens_34 : decode cX8_opens 34 = .ok (.getfield 53, 3) := by decide +kernel
theorem dX8_opens_37 : decode cX8_opens 37 = .ok (.iload_n 2, 1) := by decide +kernel
theorem dX8_opens_38 : decode cX8_opens 38 = .ok (.iastore, 1) := by decide +kernel
theorem dX8_opens_39 : decode cX8_opens 39 = .ok (.aload_n 0, 1) := by decide +kernel
theorem dX8_opens_40 : decode cX8_opens 40 = .ok (.dup, 1) := by decide +kernel
theorem dX8_opens_41 : decode cX8_opens 41 = .ok (.getfield 53, 3) := by decide +kernel
theorem dX8_opens_44 : decode cX8_opens 44 = .ok (.iconst 1, 1) := by decide +kernel
theorem dX8_opens_45 : decode cX8_opens 45 = .ok (.iadd, 1) := by decide +kernel
theorem dX8_opens_46 : decode cX8_opens 46 = .ok (.putfield 53, 3) := by decide +kernel
theorem dX8_opens_49 : decode cX8_opens 49 = .ok (.aload_n 0, 1) := by decide +kernel
theorem dX8_opens_50 : decode cX8_opens 50 = .ok (.dup, 1) := by decide +kernel
theorem dX8_opens_51 : decode cX8_opens 51 = .ok (.getfield 14, 3) := by decide +kernel
theorem dX8_opens_54 : decode cX8_opens 54 = .ok (.iconst 1, 1) := by decide +kernel
theorem dX8_opens_55 : decode cX8_opens 55 = .ok (.iadd, 1) := by decide +kernel
theorem dX8_opens_56 : decode cX8_opens 56 = .ok (.putfield 14, 3) := by decide +kernel
theorem dX8_opens_59 : decode cX8_opens 59 = .ok (.return_, 1) := by decide +kernel
set_option maxRecDepth 20000 in
theorem ggX8_bind_X8_opens : GoodIn wsX8_bind wsX8_opens := goodIn_r _ [11, 12, 3, 13, 14, 15, 16, 17, 10, 18, 2, 33, 34, 35, 36, 37, 38, 39, 40, 41, 42, 43, 44, 45, 46, 47, 48, 49, 50, 51, 52, 53, 54, 55, 56, 57, 58, 59, 60, 61, 62, 63, 64, 65, 66, 67, 68, 69, 70, 71, 72, 73, 74, 75, 76, 77, 78, 79, 80, 81, 82, 83, 84, 85, 86, 87, 88, 89, 90] (by decide +kernel) (by decide +kernel)
set_option maxRecDepth 20000 in
theorem gX8_bind_X8_opens : GoodIn wsX8_bind (wsV RX8 65 RX8 yX8_opens wsX8_opens) := goodIn_app (goodIn_of _ (by decide +kernel)) ggX8_bind_X8_opens
set_option maxRecDepth 20000 in
theorem ggX8_bind_X8_look : GoodIn wsX8_bind wsX8_look := goodIn_r _ [22, 3, 23, 24, 33, 34, 35, 36, 37, 38, 39, 40, 41, 42, 43, 44, 45, 46, 47, 48, 49, 50, 51, 52, 53, 54, 55, 56, 57, 58, 59, 60, 61, 62, 63, 64, 65, 66, 67, 68, 69, 70, 71, 72, 73, 74, 75, 76, 77, 78, 79, 80, 81, 82, 83, 84, 85, 86, 87, 88, 89, 90] (by decide +kernel) (by decide +kernel)
set_option maxRecDepth 20000 in
theorem gX8_bind_X8_look : GoodIn wsX8_bind (wsV RX8 68 RX8 yX8_look wsX8_look) := goodIn_app (goodIn_of _ (by decide +kernel)) ggX8_bind_X8_look
set_option maxRecDepth 20000 in
theorem ggX8_bind_X8_isLetter : GoodIn wsX8_bind wsX8_isLetter := goodIn_r _ [27] (by decide +kernel) (by decide +kernel)
set_option maxRecDepth 20000 in
theorem gX8_bind_X8_isLetter : GoodIn wsX8_bind (va_wsS RX8 33 yX8_isLetter wsX8_isLetter) := goodIn_app (goodIn_of _ (by decide +kernel)) ggX8_bind_X8_isLetter
set_option maxRecDepth 20000 in
theorem ggX8_bind_X8_bad : GoodIn wsX8_bind wsX8_bad := goodIn_r _ [18, 2, 3, 33, 34, 35, 36, 37, 38, 39, 40, 41, 42, 43, 44, 45, 46, 47, 48, 49, 50, 51, 52, 53, 54, 55, 56, 57, 58, 59, 60, 61, 62, 63, 64, 65, 66, 67, 68, 69, 70, 71, 72, 73, 74, 75, 76, 77, 78, 79, 80, 81, 82, 83, 84, 85, 86, 87, 88, 89, 90] (by decide +kernel) (by decide +kernel)
set_option maxRecDepth 20000 in
theorem gX8_bind_X8_bad : GoodIn wsX8_bind (wsV RX8 46 RX8 yX8_bad wsX8_bad) := goodIn_app (goodIn_of _ (by decide +kernel)) ggX8_bind_X8_bad
set_option maxRecDepth 20000 in
theorem ggX8_bind_X8_name : GoodIn wsX8_bind wsX8_name := goodIn_r _ [31, 3, 23, 24, 5, 4, 6, 32, 25, 26, 10, 27, 15, 16, 17, 18, 2, 33, 34, 35, 36, 37, 38, 39, 40, 41, 42, 43, 44, 45, 46, 47, 48, 49, 50, 51, 52, 53, 54, 55, 56, 57, 58, 59, 60, 61, 62, 63, 64, 65, 66, 67, 68, 69, 70, 71, 72, 73, 74, 75, 76, 77, 78, 79, 80, 81, 82, 83, 84, 85, 86, 87, 88, 89, 90] (by decide +kernel) (by decide +kernel)
set_option maxRecDepth 20000 in
theorem gX8_bind_X8_name : GoodIn wsX8_bind (wsV RX8 72 RX8 yX8_name wsX8_name) := goodIn_app (goodIn_of _ (by decide +kernel)) ggX8_bind_X8_name
theorem dX8_bind_0 : decode cX8_bind 0 = .ok (.aload_n 0, 1) := by decide +kernel
theorem dX8_bind_1 : decode cX8_bind 1 = .ok (.iconst 1, 1) := by decide +kernel
theorem dX8_bind_2 : decode cX8_bind 2 = .ok (.aload_n 0, 1) := by decide +kernel
theorem dX8_bind_3 : decode cX8_bind 3 = .ok (.getfield 62, 3) := by decide +kernel
theorem dX8_bind_6 : decode cX8_bind 6 = .ok (.invokevirtual 65, 3) := by decide +kernel
theorem dX8_bind_9 : decode cX8_bind 9 = .ok (.aload_n 0, 1) := by decide +kernel
theorem dX8_bind_10 : decode cX8_bind 10 = .ok (.getfield 17, 3) := by decide +kernel
theorem dX8_bind_13 : decode cX8_bind 13 = .ok (.ifCond .ne 22, 3) := by decide +kernel
theorem dX8_bind_16 : decode cX8_bind 16 = .ok (.aload_n 0, 1) := by decide +kernel
theorem dX8_bind_17 : decode cX8_bind 17 = .ok (.invokevirtual 68, 3) := by decide +kernel
theorem dX8_bind_20 : decode cX8_bind 20 = .ok (.invokestatic 33, 3) := by decide +kernel
theorem dX8_bind_23 : decode cX8_bind 23 = .ok (.ifCond .ne 12, 3) := by decide +kernel
theorem dX8_bind_26 : decode cX8_bind 26 = .ok (.aload_n 0, 1) := by decide +kernel
theorem dX8_bind_27 : decode cX8_bind 27 = .ok (.iconst 1, 1) := by decide +kernel
theorem dX8_bind_28 : decode cX8_bind 28 = .ok (.aload_n 0, 1) := by decide +kernel
theorem dX8_bind_29 : decode cX8_bind 29 = .ok (.getfield 14, 3) := by decide +kernel
theorem dX8_bind_32 : decode cX8_bind 32 = .ok (.invokevirtual 46, 3) := by decide +kernel
theorem dX8_bind_35 : decode cX8_bind 35 = .ok (.aload_n 0, 1) := by decide +kernel
theorem dX8_bind_36 : decode cX8_bind 36 = .ok (.getfield 17, 3) := by decide +kernel
theorem dX8_bind_39 : decode cX8_bind 39 = .ok (.ifCond .ne 11, 3) := by decide +kernel
theorem dX8_bind_42 : decode cX8_bind 42 = .ok (.aload_n 0, 1) := by decide +kernel
theorem dX8_bind_43 : decode cX8_bind 43 = .ok (.iconst 1, 1) := by decide +kernel
theorem dX8_bind_44 : decode cX8_bind 44 = .ok (.invokevirtual 72, 3) := by decide +kernel
theorem dX8_bind_47 : decode cX8_bind 47 = .ok (.goto 4, 3) := by decide +kernel
theorem dX8_bind_50 : decode cX8_bind 50 = .ok (.iconst 0, 1) := by decide +kernel
theorem dX8_bind_51 : decode cX8_bind 51 = .ok (.istore_n 1, 1) := by decide +kernel
theorem dX8_bind_52 : decode cX8_bind 52 = .ok (.aload_n 0, 1) := by decide +kernel
theorem dX8_bind_53 : decode cX8_bind 53 = .ok (.getfield 17, 3) := by decide +kernel
theorem dX8_bind_56 : decode cX8_bind 56 = .ok (.ifCond .ne 21, 3) := by decide +kernel
theorem dX8_bind_59 : decode cX8_bind 59 = .ok (.aload_n 0, 1) := by decide +kernel
theorem dX8_bind_60 : decode cX8_bind 60 = .ok (.invokevirtual 68, 3) := by decide +kernel
theorem dX8_bind_63 : decode cX8_bind 63 = .ok (.bipush 46, 2) := by decide +kernel
theorem dX8_bind_65 : decode cX8_bind 65 = .ok (.if_icmp .eq 12, 3) := by decide +kernel
theorem dX8_bind_68 : decode cX8_bind 68 = .ok (.aload_n 0, 1) := by decide +kernel
theorem dX8_bind_69 : decode cX8_bind 69 = .ok (.iconst 1, 1) := by decide +kernel
theorem dX8_bind_70 : decode cX8_bind 70 = .ok (.aload_n 0, 1) := by decide +kernel
theorem dX8_bind_71 : decode cX8_bind 71 = .ok (.getfield 14, 3) := by decide +kernel
theorem dX8_bind_74 : decode cX8_bind 74 = .ok (.invokevirtual 46, 3) := by decide +kernel
theorem dX8_bind_77 : decode cX8_bind 77 = .ok (.aload_n 0, 1) := by decide +kernel
theorem dX8_bind_78 : decode cX8_bind 78 = .ok (.getfield 17, 3) := by decide +kernel
theorem dX8_bind_81 : decode cX8_bind 81 = .ok (.ifCond .ne 56, 3) := by decide +kernel
theorem dX8_bind_84 : decode cX8_bind 84 = .ok (.aload_n 0, 1) := by decide +kernel
theorem dX8_bind_85 : decode cX8_bind 85 = .ok (.dup, 1) := by decide +kernel
theorem dX8_bind_86 : decode cX8_bind 86 = .ok (.getfield 14, 3) := by decide +kernel
theorem dX8_bind_89 : decode cX8_bind 89 = .ok (.iconst 1, 1) := by decide +kernel
theorem dX8_bind_90 : decode cX8_bind 90 = .ok (.iadd, 1) := by decide +kernel
theorem dX8_bind_91 : decode cX8_bind 91 = .ok (.putfield 14, 3) := by decide +kernel
theorem dX8_bind_94 : decode cX8_bind 94 = .ok (.aload_n 0, 1) := by decide +kernel
theorem dX8_bind_95 : decode cX8_bind 95 = .ok (.getfield 40, 3) := by decide +kernel
theorem dX8_bind_98 : decode cX8_bind 98 = .ok (.aload_n 0, 1) := by decide +kernel
theorem dX8_bind_99 : decode cX8_bind 99 = .ok (.getfield 37, 3) := by decide +kernel
theorem dX8_bind_102 : decode cX8_bind 102 = .ok (.iload_n 1, 1) := by decide +kernel
theorem dX8_bind_103 : decode cX8_bind 103 = .ok (.iastore, 1) := by decide +kernel
theorem dX8_bind_104 : decode cX8_bind 104 = .ok (.aload_n 0, 1) := by decide +kernel
theorem dX8_bind_105 : decode cX8_bind 105 = .ok (.getfield 43, 3) := by decide +kernel
theorem dX8_bind_108 : decode cX8_bind 108 = .ok (.aload_n 0, 1) := by decide +kernel
theorem dX8_bind_109 : decode cX8_bind 109 = .ok (.getfield 37, 3) := by decide +kernel
theorem dX8_bind_112 : decode cX8_bind 112 = .ok (.aload_n 0, 1) := by decide +kernel
theorem dX8_bind_113 : decode cX8_bind 113 = .ok (.getfield 62, 3) := by decide +kernel
theorem dX8_bind_116 : decode cX8_bind 116 = .ok (.iastore, 1) := by decide +kernel
theorem dX8_bind_117 : decode cX8_bind 117 = .ok (.aload_n 0, 1) := by decide +kernel
theorem dX8_bind_118 : decode cX8_bind 118 = .ok (.dup, 1) := by decide +kernel
theorem dX8_bind_119 : decode cX8_bind 119 = .ok (.getfield 37, 3) := by decide +kernel
theorem dX8_bind_122 : decode cX8_bind 122 = .ok (.iconst 1, 1) := by decide +kernel
theorem dX8_bind_123 : decode cX8_bind 123 = .ok (.iadd, 1) := by decide +kernel
theorem dX8_bind_124 : decode cX8_bind 124 = .ok (.putfield 37, 3) := by decide +kernel
theorem dX8_bind_127 : decode cX8_bind 127 = .ok (.aload_n 0, 1) := by decide +kernel
theorem dX8_bind_128 : decode cX8_bind 128 = .ok (.dup, 1) := by decide +kernel
theorem dX8_bind_129 : decode cX8_bind 129 = .ok (.getfield 62, 3) := by decide +kernel
theorem dX8_bind_132 : decode cX8_bind 132 = .ok (.iconst 1, 1) := by decide +kernel
theorem dX8_bind_133 : decode cX8_bind 133 = .ok (.iadd, 1) := by decide +kernel
theorem dX8_bind_134 : decode cX8_bind 134 = .ok (.putfield 62, 3) := by decide +kernel
theorem dX8_bind_137 : decode cX8_bind 137 = .ok (.return_, 1) := by decide +kernel
set_option maxRecDepth 20000 in
theorem ggX8_joined_X8_tree : GoodIn wsX8_joined wsX8_tree := goodIn_r _ [5, 6, 7, 8, 9, 10, 11, 12, 13, 14, 15, 16, 17, 18, 19, 20, 21, 22, 23, 24, 25, 26, 27, 28, 29, 30, 31, 32, 33, 34, 35, 36, 37, 38, 39, 40, 41, 42, 43, 44, 45, 46, 47, 48, 49, 50, 51, 52, 53, 54, 55, 56, 57, 58, 59, 60, 61, 62, 63, 64, 65, 66, 67] (by decide +kernel) (by decide +kernel)
set_option maxRecDepth 20000 in
theorem gX8_joined_X8_tree : GoodIn wsX8_joined (wsV RX8 76 RX8 yX8_tree wsX8_tree) := goodIn_app (goodIn_of _ (by decide +kernel)) ggX8_joined_X8_tree
theorem dX8_joined_0 : decode cX8_joined 0 = .ok (.iload_n 1, 1) := by decide +kernel
theorem dX8_joined_1 : decode cX8_joined 1 = .ok (.ifCond .ge 7, 3) := by decide +kernel
theorem dX8_joined_4 : decode cX8_joined 4 = .ok (.iload_n 2, 1) := by decide +kernel
theorem dX8_joined_5 : decode cX8_joined 5 = .ok (.goto 10, 3) := by decide +kernel
theorem dX8_joined_8 : decode cX8_joined 8 = .ok (.aload_n 0, 1) := by decide +kernel
theorem dX8_joined_9 : decode cX8_joined 9 = .ok (.iconst 2, 1) := by decide +kernel
theorem dX8_joined_10 : decode cX8_joined 10 = .ok (.iload_n 1, 1) := by decide +kernel
theorem dX8_joined_11 : decode cX8_joined 11 = .ok (.iload_n 2, 1) := by decide +kernel
theorem dX8_joined_12 : decode cX8_joined 12 = .ok (.invokevirtual 76, 3) := by decide +kernel
theorem dX8_joined_15 : decode cX8_joined 15 = .ok (.ireturn, 1) := by decide +kernel
set_option maxRecDepth 20000 in
theorem ggX8_closed_X8_tree : GoodIn wsX8_closed wsX8_tree := goodIn_r _ [9, 10, 11, 12, 13, 14, 15, 16, 17, 18, 19, 20, 21, 22, 23, 24, 25, 26, 27, 28, 29, 30, 31, 32, 33, 34, 35, 36, 37, 38, 39, 40, 41, 42, 43, 44, 45, 46, 47, 48, 49, 50, 51, 52, 53, 54, 55, 56, 57, 58, 59, 60, 61, 62, 63, 64, 65, 66, 67, 68, 69, 70, 71] (by decide +kernel) (by decide +kernel)
set_option maxRecDepth 20000 in
theorem gX8_closed_X8_tree : GoodIn wsX8_closed (wsV RX8 76 RX8 yX8_tree wsX8_tree) := goodIn_app (goodIn_of _ (by decide +kernel)) ggX8_closed_X8_tree
theorem dX8_closed_0 : decode cX8_closed 0 = .ok (.iload_n 1, 1) := by decide +kernel
theorem dX8_closed_1 : decode cX8_closed 1 = .ok (.istore_n 2, 1) := by decide +kernel
theorem dX8_closed_2 : decode cX8_closed 2 = .ok (.aload_n 0, 1) := by decide +kernel
theorem dX8_closed_3 : decode cX8_closed 3 = .ok (.getfield 53, 3) := by decide +kernel
theorem dX8_closed_6 : decode cX8_closed 6 = .ok (.ifCond .le 57, 3) := by decide +kernel
theorem dX8_closed_9 : decode cX8_closed 9 = .ok (.aload_n 0, 1) := by decide +kernel
theorem dX8_closed_10 : decode cX8_closed 10 = .ok (.getfield 56, 3) := by decide +kernel
theorem dX8_closed_13 : decode cX8_closed 13 = .ok (.aload_n 0, 1) := by decide +kernel
theorem dX8_closed_14 : decode cX8_closed 14 = .ok (.getfield 53, 3) := by decide +kernel
theorem dX8_closed_17 : decode cX8_closed 17 = .ok (.iconst 1, 1) := by decide +kernel
theorem dX8_closed_18 : decode cX8_closed 18 = .ok (.isub, 1) := by decide +kernel
theorem dX8_closed_19 : decode cX8_closed 19 = .ok (.iaload, 1) := by decide +kernel
theorem dX8_closed_20 : decode cX8_closed 20 = .ok (.iconst 1, 1) := by decide +kernel
theorem dX8_closed_21 : decode cX8_closed 21 = .ok (.if_icmp .ne 42, 3) := by decide +kernel
theorem dX8_closed_24 : decode cX8_closed 24 = .ok (.aload_n 0, 1) := by decide +kernel
theorem dX8_closed_25 : decode cX8_closed 25 = .ok (.dup, 1) := by decide +kernel
theorem dX8_closed_26 : decode cX8_closed 26 = .ok (.getfield 53, 3) := by decide +kernel
theorem dX8_closed_29 : decode cX8_closed 29 = .ok (.iconst 1, 1) := by decide +kernel
theorem dX8_closed_30 : decode cX8_closed 30 = .ok (.isub, 1) := by decide +kernel
theorem dX8_closed_31 : decode cX8_closed 31 = .ok (.putfield 53, 3) := by decide +kernel
theorem dX8_closed_34 : decode cX8_closed 34 = .ok (.aload_n 0, 1) := by decide +kernel
theorem dX8_closed_35 : decode cX8_closed 35 = .ok (.dup, 1) := by decide +kernel
theorem dX8_closed_36 : decode cX8_closed 36 = .ok (.getfield 37, 3) := by decide +kernel
theorem dX8_closed_39 : decode cX8_closed 39 = .ok (.iconst 1, 1) := by decide +kernel
theorem dX8_closed_40 : decode cX8_closed 40 = .ok (.isub, 1) := by decide +kernel
theorem dX8_closed_41 : decode cX8_closed 41 = .ok (.putfield 37, 3) := by decide +kernel
theorem dX8_closed_44 : decode cX8_closed 44 = .ok (.aload_n 0, 1) := by decide +kernel
theorem dX8_closed_45 : decode cX8_closed 45 = .ok (.iconst 1, 1) := by decide +kernel
theorem dX8_closed_46 : decode cX8_closed 46 = .ok (.aload_n 0, 1) := by decide +kernel
theorem dX8_closed_47 : decode cX8_closed 47 = .ok (.getfield 59, 3) := by decide +kernel
theorem dX8_closed_50 : decode cX8_closed 50 = .ok (.aload_n 0, 1) := by decide +kernel
theorem dX8_closed_51 : decode cX8_closed 51 = .ok (.getfield 53, 3) := by decide +kernel
theorem dX8_closed_54 : decode cX8_closed 54 = .ok (.iaload, 1) := by decide +kernel
theorem dX8_closed_55 : decode cX8_closed 55 = .ok (.iload_n 2, 1) := by decide +kernel
theorem dX8_closed_56 : decode cX8_closed 56 = .ok (.invokevirtual 76, 3) := by decide +kernel
theorem dX8_closed_59 : decode cX8_closed 59 = .ok (.istore_n 2, 1) := by decide +kernel
theorem dX8_closed_60 : decode cX8_closed 60 = .ok (.goto (-58), 3) := by decide +kernel
theorem dX8_closed_63 : decode cX8_closed 63 = .ok (.iload_n 2, 1) := by decide +kernel
theorem dX8_closed_64 : decode cX8_closed 64 = .ok (.ireturn, 1) := by decide +kernel
set_option maxRecDepth 20000 in
theorem ggX8_term_X8_look : GoodIn wsX8_term wsX8_look := goodIn_r _ [9, 2, 10, 11, 53, 54, 55, 56, 57, 58, 59, 60, 61, 62, 63, 64, 65, 66, 67, 68, 69, 70, 71, 72, 73, 74, 75, 76, 77, 78, 79, 80, 81, 82, 83, 84, 85, 86, 87, 88, 89, 90, 91, 92, 93, 94, 95, 96, 97, 98, 99, 100, 101, 102, 103, 104, 105, 106, 107, 108, 109, 110] (by decide +kernel) (by decide +kernel)
set_option maxRecDepth 20000 in
theorem gX8_term_X8_look : GoodIn wsX8_term (wsV RX8 68 RX8 yX8_look wsX8_look) := goodIn_app (goodIn_of _ (by decide +kernel)) ggX8_term_X8_look
set_option maxRecDepth 20000 in
theorem ggX8_term_X8_bind : GoodIn wsX8_term wsX8_bind := goodIn_r _ [15, 16, 1, 2, 17, 18, 19, 20, 21, 22, 8, 23, 3, 24, 4, 25, 26, 27, 28, 5, 6, 7, 9, 10, 11, 29, 30, 31, 32, 33, 34, 35, 36, 53, 54, 55, 56, 57, 58, 59, 60, 61, 62, 63, 64, 65, 66, 67, 68, 69, 70, 71, 72, 73, 74, 75, 76, 77, 78, 79, 80, 81, 82, 83, 84, 85, 86, 87, 88, 89, 90, 91, 92, 93, 94, 95, 96, 97, 98, 99, 100, 101, 102, 103, 104, 105, 106, 107, 108, 109, 110] (by decide +kernel) (by decide +kernel)
set_option maxRecDepth 20000 in
theorem gX8_term_X8_bind : GoodIn wsX8_term (wsV RX8 80 RX8 yX8_bind wsX8_bind) := goodIn_app (goodIn_of _ (by decide +kernel)) ggX8_term_X8_bind
set_option maxRecDepth 20000 in
theorem ggX8_term_X8_isLetter : GoodIn wsX8_term wsX8_isLetter := goodIn_r _ [31] (by decide +kernel) (by decide +kernel)
set_option maxRecDepth 20000 in
theorem gX8_term_X8_isLetter : GoodIn wsX8_term (va_wsS RX8 33 yX8_isLetter wsX8_isLetter) := goodIn_app (goodIn_of _ (by decide +kernel)) ggX8_term_X8_isLetter
set_option maxRecDepth 20000 in
theorem ggX8_term_X8_name : GoodIn wsX8_term wsX8_name := goodIn_r _ [35, 2, 10, 11, 18, 17, 19, 36, 29, 30, 8, 31, 25, 26, 27, 28, 1, 53, 54, 55, 56, 57, 58, 59, 60, 61, 62, 63, 64, 65, 66, 67, 68, 69, 70, 71, 72, 73, 74, 75, 76, 77, 78, 79, 80, 81, 82, 83, 84, 85, 86, 87, 88, 89, 90, 91, 92, 93, 94, 95, 96, 97, 98, 99, 100, 101, 102, 103, 104, 105, 106, 107, 108, 109, 110] (by decide +kernel) (by decide +kernel)
set_option maxRecDepth 20000 in
theorem gX8_term_X8_name : GoodIn wsX8_term (wsV RX8 72 RX8 yX8_name wsX8_name) := goodIn_app (goodIn_of _ (by decide +kernel)) ggX8_term_X8_name
set_option maxRecDepth 20000 in
theorem ggX8_term_X8_tree : GoodIn wsX8_term wsX8_tree := goodIn_r _ [40, 41, 42, 43, 44, 53, 54, 55, 56, 57, 58, 59, 60, 61, 62, 63, 64, 65, 66, 67, 68, 69, 70, 71, 72, 73, 74, 75, 76, 77, 78, 79, 80, 81, 82, 83, 84, 85, 86, 87, 88, 89, 90, 91, 92, 93, 94, 95, 96, 97, 98, 99, 100, 101, 102, 103, 104, 105, 106, 107, 108, 109, 110] (by decide +kernel) (by decide +kernel)
set_option maxRecDepth 20000 in
theorem gX8_term_X8_tree : GoodIn wsX8_term (wsV RX8 76 RX8 yX8_tree wsX8_tree) := goodIn_app (goodIn_of _ (by decide +kernel)) ggX8_term_X8_tree
set_option maxRecDepth 20000 in
theorem ggX8_term_X8_joined : GoodIn wsX8_term wsX8_joined := goodIn_r _ [48, 37, 38, 39, 8, 40, 41, 42, 43, 44, 53, 54, 55, 56, 57, 58, 59, 60, 61, 62, 63, 64, 65, 66, 67, 68, 69, 70, 71, 72, 73, 74, 75, 76, 77, 78, 79, 80, 81, 82, 83, 84, 85, 86, 87, 88, 89, 90, 91, 92, 93, 94, 95, 96, 97, 98, 99, 100, 101, 102, 103, 104, 105, 106, 107, 108, 109, 110] (by decide +kernel) (by decide +kernel)
set_option maxRecDepth 20000 in
theorem gX8_term_X8_joined : GoodIn wsX8_term (wsV RX8 84 RX8 yX8_joined wsX8_joined) := goodIn_app (goodIn_of _ (by decide +kernel)) ggX8_term_X8_joined
set_option maxRecDepth 20000 in
theorem ggX8_term_X8_opens : GoodIn wsX8_term wsX8_opens := goodIn_r _ [23, 3, 2, 24, 4, 25, 26, 27, 8, 28, 1, 53, 54, 55, 56, 57, 58, 59, 60, 61, 62, 63, 64, 65, 66, 67, 68, 69, 70, 71, 72, 73, 74, 75, 76, 77, 78, 79, 80, 81, 82, 83, 84, 85, 86, 87, 88, 89, 90, 91, 92, 93, 94, 95, 96, 97, 98, 99, 100, 101, 102, 103, 104, 105, 106, 107, 108, 109, 110] (by decide +kernel) (by decide +kernel)
set_option maxRecDepth 20000 in
theorem gX8_term_X8_opens : GoodIn wsX8_term (wsV RX8 65 RX8 yX8_opens wsX8_opens) := goodIn_app (goodIn_of _ (by decide +kernel)) ggX8_term_X8_opens
set_option maxRecDepth 20000 in
theorem ggX8_term_X8_bad : GoodIn wsX8_term wsX8_bad := goodIn_r _ [28, 1, 2, 53, 54, 55, 56, 57, 58, 59, 60, 61, 62, 63, 64, 65, 66, 67, 68, 69, 70, 71, 72, 73, 74, 75, 76, 77, 78, 79, 80, 81, 82, 83, 84, 85, 86, 87, 88, 89, 90, 91, 92, 93, 94, 95, 96, 97, 98, 99, 100, 101, 102, 103, 104, 105, 106, 107, 108, 109, 110] (by decide +kernel) (by decide +kernel)
set_option maxRecDepth 20000 in
theorem gX8_term_X8_bad : GoodIn wsX8_term (wsV RX8 46 RX8 yX8_bad wsX8_bad) := goodIn_app (goodIn_of _ (by decide +kernel)) ggX8_term_X8_bad
set_option maxRecDepth 20000 in
theorem ggX8_term_X8_closed : GoodIn wsX8_term wsX8_closed := goodIn_r _ [52, 3, 24, 18, 4, 37, 38, 39, 8, 40, 41, 42, 43, 44, 53, 54, 55, 56, 57, 58, 59, 60, 61, 62, 63, 64, 65, 66, 67, 68, 69, 70, 71, 72, 73, 74, 75, 76, 77, 78, 79, 80, 81, 82, 83, 84, 85, 86, 87, 88, 89, 90, 91, 92, 93, 94, 95, 96, 97, 98, 99, 100, 101, 102, 103, 104, 105, 106, 107, 108, 109, 110] (by decide +kernel) (by decide +kernel)
set_option maxRecDepth 20000 in
theorem gX8_term_X8_closed : GoodIn wsX8_term (wsV RX8 88 RX8 yX8_closed wsX8_closed) := goodIn_app (goodIn_of _ (by decide +kernel)) ggX8_term_X8_closed
theorem dX8_term_0 : decode cX8_term 0 = .ok (.iconst (-1), 1) := by decide +kernel
theorem dX8_term_1 : decode cX8_term 1 = .ok (.istore_n 1, 1) := by decide +kernel
theorem dX8_term_2 : decode cX8_term 2 = .ok (.iconst 1, 1) := by decide +kernel
theorem dX8_term_3 : decode cX8_term 3 = .ok (.istore_n 2, 1) := by decide +kernel
theorem dX8_term_4 : decode cX8_term 4 = .ok (.iload_n 2, 1) := by decide +kernel
theorem dX8_term_5 : decode cX8_term 5 = .ok (.ifCond .eq 212, 3) := by decide +kernel
theorem dX8_term_8 : decode cX8_term 8 = .ok (.aload_n 0, 1) := by decide +kernel
theorem dX8_term_9 : decode cX8_term 9 = .ok (.getfield 17, 3) := by decide +kernel
theorem dX8_term_12 : decode cX8_term 12 = .ok (.ifCond .ne 205, 3) := by decide +kernel
theorem dX8_term_15 : decode cX8_term 15 = .ok (.aload_n 0, 1) := by decide +kernel
theorem dX8_term_16 : decode cX8_term 16 = .ok (.invokevirtual 68, 3) := by decide +kernel
theorem dX8_term_19 : decode cX8_term 19 = .ok (.istore_n 3, 1) := by decide +kernel
theorem dX8_term_20 : decode cX8_term 20 = .ok (.iload_n 3, 1) := by decide +kernel
theorem dX8_term_21 : decode cX8_term 21 = .ok (.bipush 92, 2) := by decide +kernel
theorem dX8_term_23 : decode cX8_term 23 = .ok (.if_icmp .ne 14, 3) := by decide +kernel
theorem dX8_term_26 : decode cX8_term 26 = .ok (.iload_n 1, 1) := by decide +kernel
theorem dX8_term_27 : decode cX8_term 27 = .ok (.ifCond .ge 10, 3) := by decide +kernel
theorem dX8_term_30 : decode cX8_term 30 = .ok (.aload_n 0, 1) := by decide +kernel
theorem dX8_term_31 : decode cX8_term 31 = .ok (.invokevirtual 80, 3) := by decide +kernel
theorem dX8_term_34 : decode cX8_term 34 = .ok (.goto 180, 3) := by decide +kernel
theorem dX8_term_37 : decode cX8_term 37 = .ok (.iload_n 3, 1) := by decide +kernel
theorem dX8_term_38 : decode cX8_term 38 = .ok (.invokestatic 33, 3) := by decide +kernel
theorem dX8_term_41 : decode cX8_term 41 = .ok (.ifCond .eq 38, 3) := by decide +kernel
theorem dX8_term_44 : decode cX8_term 44 = .ok (.aload_n 0, 1) := by decide +kernel
theorem dX8_term_45 : decode cX8_term 45 = .ok (.iconst 0, 1) := by decide +kernel
theorem dX8_term_46 : decode cX8_term 46 = .ok (.invokevirtual 72, 3) := by decide +kernel
theorem dX8_term_49 : decode cX8_term 49 = .ok (.istore 4, 2) := by decide +kernel
theorem dX8_term_51 : decode cX8_term 51 = .ok (.aload_n 0, 1) := by decide +kernel
theorem dX8_term_52 : decode cX8_term 52 = .ok (.getfield 17, 3) := by decide +kernel
theorem dX8_term_55 : decode cX8_term 55 = .ok (.ifCond .ne 19, 3) := by decide +kernel
theorem dX8_term_58 : decode cX8_term 58 = .ok (.aload_n 0, 1) := by decide +kernel
theorem dX8_term_59 : decode cX8_term 59 = .ok (.iload_n 1, 1) := by decide +kernel
theorem dX8_term_60 : decode cX8_term 60 = .ok (.aload_n 0, 1) := by decide +kernel
theorem dX8_term_61 : decode cX8_term 61 = .ok (.iconst 0, 1) := by decide +kernel
theorem dX8_term_62 : decode cX8_term 62 = .ok (.iload 4, 2) := by decide +kernel
theorem dX8_term_64 : decode cX8_term 64 = .ok (.iconst 0, 1) := by decide +kernel
theorem dX8_term_65 : decode cX8_term 65 = .ok (.invokevirtual 76, 3) := by decide +kernel
theorem dX8_term_68 : decode cX8_term 68 = .ok (.invokevirtual 84, 3) := by decide +kernel
theorem dX8_term_71 : decode cX8_term 71 = .ok (.goto 4, 3) := by decide +kernel
theorem dX8_term_74 : decode cX8_term 74 = .ok (.iload_n 1, 1) := by decide +kernel
theorem dX8_term_75 : decode cX8_term 75 = .ok (.istore_n 1, 1) := by decide +kernel
theorem dX8_term_76 : decode cX8_term 76 = .ok (.goto 138, 3) := by decide +kernel
theorem dX8_term_79 : decode cX8_term 79 = .ok (.iload_n 3, 1) := by decide +kernel
theorem dX8_term_80 : decode cX8_term 80 = .ok (.bipush 40, 2) := by decide +kernel
theorem dX8_term_82 : decode cX8_term 82 = .ok (.if_icmp .ne 14, 3) := by decide +kernel
theorem dX8_term_85 : decode cX8_term 85 = .ok (.aload_n 0, 1) := by decide +kernel
theorem dX8_term_86 : decode cX8_term 86 = .ok (.iconst 0, 1) := by decide +kernel
theorem dX8_term_87 : decode cX8_term 87 = .ok (.iload_n 1, 1) := by decide +kernel
theorem dX8_term_88 : decode cX8_term 88 = .ok (.invokevirtual 65, 3) := by decide +kernel
theorem dX8_term_91 : decode cX8_term 91 = .ok (.iconst (-1), 1) := by decide +kernel
theorem dX8_term_92 : decode cX8_term 92 = .ok (.istore_n 1, 1) := by decide +kernel
theorem dX8_term_93 : decode cX8_term 93 = .ok (.goto 121, 3) := by decide +kernel
theorem dX8_term_96 : decode cX8_term 96 = .ok (.iload_n 1, 1) := by decide +kernel
theorem dX8_term_97 : decode cX8_term 97 = .ok (.ifCond .lt 14, 3) := by decide +kernel
theorem dX8_term_100 : decode cX8_term 100 = .ok (.iload_n 3, 1) := by decide +kernel
theorem dX8_term_101 : decode cX8_term 101 = .ok (.bipush 41, 2) := by decide +kernel
theorem dX8_term_103 : decode cX8_term 103 = .ok (.if_icmp .eq 20, 3) := by decide +kernel
theorem dX8_term_106 : decode cX8_term 106 = .ok (.iload_n 3, 1) := by decide +kernel
theorem dX8_term_107 : decode cX8_term 107 = .ok (.iconst (-1), 1) := by decide +kernel
theorem dX8_term_108 : decode cX8_term 108 = .ok (.if_icmp .eq 15, 3) := by decide +kernel
theorem dX8_term_111 : decode cX8_term 111 = .ok (.aload_n 0, 1) := by decide +kernel
theorem dX8_term_112 : decode cX8_term 112 = .ok (.iconst 1, 1) := by decide +kernel
theorem dX8_term_113 : decode cX8_term 113 = .ok (.aload_n 0, 1) := by decide +kernel
theorem dX8_term_114 : decode cX8_term 114 = .ok (.getfield 14, 3) := by decide +kernel
theorem dX8_term_117 : decode cX8_term 117 = .ok (.invokevirtual 46, 3) := by decide +kernel
theorem dX8_term_120 : decode cX8_term 120 = .ok (.goto 94, 3) := by decide +kernel
theorem dX8_term_123 : decode cX8_term 123 = .ok (.aload_n 0, 1) := by decide +kernel
theorem dX8_term_124 : decode cX8_term 124 = .ok (.iload_n 1, 1) := by decide +kernel
theorem dX8_term_125 : decode cX8_term 125 = .ok (.invokevirtual 88, 3) := by decide +kernel
theorem dX8_term_128 : decode cX8_term 128 = .ok (.istore_n 1, 1) := by decide +kernel
theorem dX8_term_129 : decode cX8_term 129 = .ok (.aload_n 0, 1) := by decide +kernel
theorem dX8_term_130 : decode cX8_term 130 = .ok (.getfield 53, 3) := by decide +kernel
theorem dX8_term_133 : decode cX8_term 133 = .ok (.ifCond .le 7, 3) := by decide +kernel
theorem dX8_term_136 : decode cX8_term 136 = .ok (.iconst 1, 1) := by decide +kernel
theorem dX8_term_137 : decode cX8_term 137 = .ok (.goto 4, 3) := by decide +kernel
theorem dX8_term_140 : decode cX8_term 140 = .ok (.iconst 0, 1) := by decide +kernel
theorem dX8_term_141 : decode cX8_term 141 = .ok (.iload_n 3, 1) := by decide +kernel
theorem dX8_term_142 : decode cX8_term 142 = .ok (.bipush 41, 2) := by decide +kernel
theorem dX8_term_144 : decode cX8_term 144 = .ok (.if_icmp .ne 7, 3) := by decide +kernel
theorem dX8_term_147 : decode cX8_term 147 = .ok (.iconst 1, 1) := by decide +kernel
theorem dX8_term_148 : decode cX8_term 148 = .ok (.goto 4, 3) := by decide +kernel
theorem dX8_term_151 : decode cX8_term 151 = .ok (.iconst 0, 1) := by decide +kernel
theorem dX8_term_152 : decode cX8_term 152 = .ok (.if_icmp .eq 15, 3) := by decide +kernel
theorem dX8_term_155 : decode cX8_term 155 = .ok (.aload_n 0, 1) := by decide +kernel
theorem dX8_term_156 : decode cX8_term 156 = .ok (.iconst 1, 1) := by decide +kernel
theorem dX8_term_157 : decode cX8_term 157 = .ok (.aload_n 0, 1) := by decide +kernel
theorem dX8_term_158 : decode cX8_term 158 = .ok (.getfield 14, 3) := by decide +kernel
theorem dX8_term_161 : decode cX8_term 161 = .ok (.invokevirtual 46, 3) := by decide +kernel
theorem dX8_term_164 : decode cX8_term 164 = .ok (.goto 50, 3) := by decide +kernel
theorem dX8_term_167 : decode cX8_term 167 = .ok (.aload_n 0, 1) := by decide +kernel
theorem dX8_term_168 : decode cX8_term 168 = .ok (.getfield 53, 3) := by decide +kernel
theorem dX8_term_171 : decode cX8_term 171 = .ok (.ifCond .le 41, 3) := by decide +kernel
theorem dX8_term_174 : decode cX8_term 174 = .ok (.aload_n 0, 1) := by decide +kernel
theorem dX8_term_175 : decode cX8_term 175 = .ok (.dup, 1) := by decide +kernel
theorem dX8_term_176 : decode cX8_term 176 = .ok (.getfield 53, 3) := by decide +kernel
theorem dX8_term_179 : decode cX8_term 179 = .ok (.iconst 1, 1) := by decide +kernel
theorem dX8_term_180 : decode cX8_term 180 = .ok (.isub, 1) := by decide +kernel
theorem dX8_term_181 : decode cX8_term 181 = .ok (.putfield 53, 3) := by decide +kernel
theorem dX8_term_184 : decode cX8_term 184 = .ok (.aload_n 0, 1) := by decide +kernel
theorem dX8_term_185 : decode cX8_term 185 = .ok (.aload_n 0, 1) := by decide +kernel
theorem dX8_term_186 : decode cX8_term 186 = .ok (.getfield 59, 3) := by decide +kernel
theorem dX8_term_189 : decode cX8_term 189 = .ok (.aload_n 0, 1) := by decide +kernel
theorem dX8_term_190 : decode cX8_term 190 = .ok (.getfield 53, 3) := by decide +kernel
theorem dX8_term_193 : decode cX8_term 193 = .ok (.iaload, 1) := by decide +kernel
theorem dX8_term_194 : decode cX8_term 194 = .ok (.iload_n 1, 1) := by decide +kernel
theorem dX8_term_195 : decode cX8_term 195 = .ok (.invokevirtual 84, 3) := by decide +kernel
theorem dX8_term_198 : decode cX8_term 198 = .ok (.istore_n 1, 1) := by decide +kernel
theorem dX8_term_199 : decode cX8_term 199 = .ok (.aload_n 0, 1) := by decide +kernel
theorem dX8_term_200 : decode cX8_term 200 = .ok (.dup, 1) := by decide +kernel
theorem dX8_term_201 : decode cX8_term 201 = .ok (.getfield 14, 3) := by decide +kernel
theorem dX8_term_204 : decode cX8_term 204 = .ok (.iconst 1, 1) := by decide +kernel
theorem dX8_term_205 : decode cX8_term 205 = .ok (.iadd, 1) := by decide +kernel
theorem dX8_term_206 : decode cX8_term 206 = .ok (.putfield 14, 3) := by decide +kernel
theorem dX8_term_209 : decode cX8_term 209 = .ok (.goto 5, 3) := by decide +kernel
theorem dX8_term_212 : decode cX8_term 212 = .ok (.iconst 0, 1) := by decide +kernel
theorem dX8_term_213 : decode cX8_term 213 = .ok (.istore_n 2, 1) := by decide +kernel
theorem dX8_term_214 : decode cX8_term 214 = .ok (.goto (-210), 3) := by decide +kernel
theorem dX8_term_217 : decode cX8_term 217 = .ok (.iload_n 1, 1) := by decide +kernel
theorem dX8_term_218 : decode cX8_term 218 = .ok (.ireturn, 1) := by decide +kernel
theorem dX8_node_0 : decode cX8_node 0 = .ok (.aload_n 0, 1) := by decide +kernel
theorem dX8_node_1 : decode cX8_node 1 = .ok (.dup, 1) := by decide +kernel
theorem dX8_node_2 : decode cX8_node 2 = .ok (.getfield 92, 3) := by decide +kernel
theorem dX8_node_5 : decode cX8_node 5 = .ok (.iconst 1, 1) := by decide +kernel
theorem dX8_node_6 : decode cX8_node 6 = .ok (.isub, 1) := by decide +kernel
theorem dX8_node_7 : decode cX8_node 7 = .ok (.putfield 92, 3) := by decide +kernel
theorem dX8_node_10 : decode cX8_node 10 = .ok (.aload_n 0, 1) := by decide +kernel
theorem dX8_node_11 : decode cX8_node 11 = .ok (.getfield 95, 3) := by decide +kernel
theorem dX8_node_14 : decode cX8_node 14 = .ok (.aload_n 0, 1) := by decide +kernel
theorem dX8_node_15 : decode cX8_node 15 = .ok (.getfield 92, 3) := by decide +kernel
theorem dX8_node_18 : decode cX8_node 18 = .ok (.iaload, 1) := by decide +kernel
theorem dX8_node_19 : decode cX8_node 19 = .ok (.istore_n 3, 1) := by decide +kernel
theorem dX8_node_20 : decode cX8_node 20 = .ok (.aload_n 0, 1) := by decide +kernel
theorem dX8_node_21 : decode cX8_node 21 = .ok (.getfield 98, 3) := by decide +kernel
theorem dX8_node_24 : decode cX8_node 24 = .ok (.iload_n 3, 1) := by decide +kernel
theorem dX8_node_25 : decode cX8_node 25 = .ok (.iload_n 1, 1) := by decide +kernel
theorem dX8_node_26 : decode cX8_node 26 = .ok (.iastore, 1) := by decide +kernel
theorem dX8_node_27 : decode cX8_node 27 = .ok (.aload_n 0, 1) := by decide +kernel
theorem dX8_node_28 : decode cX8_node 28 = .ok (.getfield 101, 3) := by decide +kernel
theorem dX8_node_31 : decode cX8_node 31 = .ok (.iload_n 3, 1) := by decide +kernel
theorem dX8_node_32 : decode cX8_node 32 = .ok (.iload_n 2, 1) := by decide +kernel
theorem dX8_node_33 : decode cX8_node 33 = .ok (.iastore, 1) := by decide +kernel
theorem dX8_node_34 : decode cX8_node 34 = .ok (.aload_n 0, 1) := by decide +kernel
theorem dX8_node_35 : decode cX8_node 35 = .ok (.dup, 1) := by decide +kernel
theorem dX8_node_36 : decode cX8_node 36 = .ok (.getfield 104, 3) := by decide +kernel
theorem dX8_node_39 : decode cX8_node 39 = .ok (.iconst 1, 1) := by decide +kernel
theorem dX8_node_40 : decode cX8_node 40 = .ok (.iadd, 1) := by decide +kernel
theorem dX8_node_41 : decode cX8_node 41 = .ok (.putfield 104, 3) := by decide +kernel
theorem dX8_node_44 : decode cX8_node 44 = .ok (.iload_n 3, 1) := by decide +kernel
theorem dX8_node_45 : decode cX8_node 45 = .ok (.ireturn, 1) := by decide +kernel
theorem dX8_free_0 : decode cX8_free 0 = .ok (.aload_n 0, 1) := by decide +kernel
theorem dX8_free_1 : decode cX8_free 1 = .ok (.getfield 98, 3) := by decide +kernel
theorem dX8_free_4 : decode cX8_free 4 = .ok (.iload_n 1, 1) := by decide +kernel
theorem dX8_free_5 : decode cX8_free 5 = .ok (.bipush 7, 2) := by decide +kernel
theorem dX8_free_7 : decode cX8_free 7 = .ok (.iastore, 1) := by decide +kernel
theorem dX8_free_8 : decode cX8_free 8 = .ok (.aload_n 0, 1) := by decide +kernel
theorem dX8_free_9 : decode cX8_free 9 = .ok (.getfield 95, 3) := by decide +kernel
theorem dX8_free_12 : decode cX8_free 12 = .ok (.aload_n 0, 1) := by decide +kernel
theorem dX8_free_13 : decode cX8_free 13 = .ok (.getfield 92, 3) := by decide +kernel
theorem dX8_free_16 : decode cX8_free 16 = .ok (.iload_n 1, 1) := by decide +kernel
theorem dX8_free_17 : decode cX8_free 17 = .ok (.iastore, 1) := by decide +kernel
theorem dX8_free_18 : decode cX8_free 18 = .ok (.aload_n 0, 1) := by decide +kernel
theorem dX8_free_19 : decode cX8_free 19 = .ok (.dup, 1) := by decide +kernel
theorem dX8_free_20 : decode cX8_free 20 = .ok (.getfield 92, 3) := by decide +kernel
theorem dX8_free_23 : decode cX8_free 23 = .ok (.iconst 1, 1) := by decide +kernel
theorem dX8_free_24 : decode cX8_free 24 = .ok (.iadd, 1) := by decide +kernel
theorem dX8_free_25 : decode cX8_free 25 = .ok (.putfield 92, 3) := by decide +kernel
theorem dX8_free_28 : decode cX8_free 28 = .ok (.aload_n 0, 1) := by decide +kernel
theorem dX8_free_29 : decode cX8_free 29 = .ok (.dup, 1) := by decide +kernel
theorem dX8_free_30 : decode cX8_free 30 = .ok (.getfield 104, 3) := by decide +kernel
theorem dX8_free_33 : decode cX8_free 33 = .ok (.iconst 1, 1) := by decide +kernel
theorem dX8_free_34 : decode cX8_free 34 = .ok (.isub, 1) := by decide +kernel
theorem dX8_free_35 : decode cX8_free 35 = .ok (.putfield 104, 3) := by decide +kernel
theorem dX8_free_38 : decode cX8_free 38 = .ok (.return_, 1) := by decide +kernel
theorem dX8_rest_0 : decode cX8_rest 0 = .ok (.aload_n 0, 1) := by decide +kernel
theorem dX8_rest_1 : decode cX8_rest 1 = .ok (.getfield 98, 3) := by decide +kernel
theorem dX8_rest_4 : decode cX8_rest 4 = .ok (.iload_n 1, 1) := by decide +kernel
theorem dX8_rest_5 : decode cX8_rest 5 = .ok (.iconst 3, 1) := by decide +kernel
theorem dX8_rest_6 : decode cX8_rest 6 = .ok (.idiv, 1) := by decide +kernel
theorem dX8_rest_7 : decode cX8_rest 7 = .ok (.iaload, 1) := by decide +kernel
theorem dX8_rest_8 : decode cX8_rest 8 = .ok (.iconst 5, 1) := by decide +kernel
theorem dX8_rest_9 : decode cX8_rest 9 = .ok (.if_icmp .ne 25, 3) := by decide +kernel
theorem dX8_rest_12 : decode cX8_rest 12 = .ok (.aload_n 0, 1) := by decide +kernel
theorem dX8_rest_13 : decode cX8_rest 13 = .ok (.getfield 107, 3) := by decide +kernel
theorem dX8_rest_16 : decode cX8_rest 16 = .ok (.aload_n 0, 1) := by decide +kernel
theorem dX8_rest_17 : decode cX8_rest 17 = .ok (.getfield 110, 3) := by decide +kernel
theorem dX8_rest_20 : decode cX8_rest 20 = .ok (.iload_n 1, 1) := by decide +kernel
theorem dX8_rest_21 : decode cX8_rest 21 = .ok (.iconst 3, 1) := by decide +kernel
theorem dX8_rest_22 : decode cX8_rest 22 = .ok (.idiv, 1) := by decide +kernel
theorem dX8_rest_23 : decode cX8_rest 23 = .ok (.iastore, 1) := by decide +kernel
theorem dX8_rest_24 : decode cX8_rest 24 = .ok (.aload_n 0, 1) := by decide +kernel
theorem dX8_rest_25 : decode cX8_rest 25 = .ok (.dup, 1) := by decide +kernel
theorem dX8_rest_26 : decode cX8_rest 26 = .ok (.getfield 110, 3) := by decide +kernel
theorem dX8_rest_29 : decode cX8_rest 29 = .ok (.iconst 1, 1) := by decide +kernel
theorem dX8_rest_30 : decode cX8_rest 30 = .ok (.iadd, 1) := by decide +kernel
theorem dX8_rest_31 : decode cX8_rest 31 = .ok (.putfield 110, 3) := by decide +kernel
theorem dX8_rest_34 : decode cX8_rest 34 = .ok (.return_, 1) := by decide +kernel
set_option maxRecDepth 20000 in
theorem ggX8_wire_X8_rest : GoodIn wsX8_wire wsX8_rest := goodIn_r _ [6, 7, 8, 9, 10, 11, 12, 13, 14, 15, 16, 17, 18, 19, 20, 21, 22, 23, 24, 25, 26, 27, 28, 29, 30, 31, 32, 33, 34, 35, 36, 37, 38, 39, 40, 41, 42, 43, 44, 45, 46, 47, 48, 49, 50, 51, 52, 53, 54, 55, 56, 57, 58, 59, 60, 61, 62, 63, 64, 65, 66, 67] (by decide +kernel) (by decide +kernel)
set_option maxRecDepth 20000 in
theorem gX8_wire_X8_rest : GoodIn wsX8_wire (wsV RX8 116 RX8 yX8_rest wsX8_rest) := goodIn_app (goodIn_of _ (by decide +kernel)) ggX8_wire_X8_rest
theorem dX8_wire_0 : decode cX8_wire 0 = .ok (.aload_n 0, 1) := by decide +kernel
theorem dX8_wire_1 : decode cX8_wire 1 = .ok (.getfield 113, 3) := by decide +kernel
theorem dX8_wire_4 : decode cX8_wire 4 = .ok (.iload_n 1, 1) := by decide +kernel
theorem dX8_wire_5 : decode cX8_wire 5 = .ok (.iload_n 2, 1) := by decide +kernel
theorem dX8_wire_6 : decode cX8_wire 6 = .ok (.iastore, 1) := by decide +kernel
theorem dX8_wire_7 : decode cX8_wire 7 = .ok (.aload_n 0, 1) := by decide +kernel
theorem dX8_wire_8 : decode cX8_wire 8 = .ok (.getfield 113, 3) := by decide +kernel
theorem dX8_wire_11 : decode cX8_wire 11 = .ok (.iload_n 2, 1) := by decide +kernel
theorem dX8_wire_12 : decode cX8_wire 12 = .ok (.iload_n 1, 1) := by decide +kernel
theorem dX8_wire_13 : decode cX8_wire 13 = .ok (.iastore, 1) := by decide +kernel
theorem dX8_wire_14 : decode cX8_wire 14 = .ok (.aload_n 0, 1) := by decide +kernel
theorem dX8_wire_15 : decode cX8_wire 15 = .ok (.iload_n 1, 1) := by decide +kernel
theorem dX8_wire_16 : decode cX8_wire 16 = .ok (.invokevirtual 116, 3) := by decide +kernel
theorem dX8_wire_19 : decode cX8_wire 19 = .ok (.aload_n 0, 1) := by decide +kernel
theorem dX8_wire_20 : decode cX8_wire 20 = .ok (.iload_n 2, 1) := by decide +kernel
theorem dX8_wire_21 : decode cX8_wire 21 = .ok (.invokevirtual 116, 3) := by decide +kernel
theorem dX8_wire_24 : decode cX8_wire 24 = .ok (.return_, 1) := by decide +kernel
set_option maxRecDepth 20000 in
theorem ggX8_ofVariable_X8_node : GoodIn wsX8_ofVariable wsX8_node := goodIn_r _ [9, 10, 11, 12, 13, 14, 15, 16, 17, 18, 19, 20, 21, 22, 23, 24, 25, 26, 27, 28, 29, 30, 31, 32, 33, 34, 35, 36, 37, 38, 39, 40, 41, 42, 43, 44, 45, 46, 47, 48, 49, 50, 51, 52, 53, 54, 55, 56, 57, 58, 59, 60, 61, 62, 63, 64, 65, 66, 67, 68, 69, 70, 71, 72] (by decide +kernel) (by decide +kernel)
set_option maxRecDepth 20000 in
theorem gX8_ofVariable_X8_node : GoodIn wsX8_ofVariable (wsV RX8 135 RX8 yX8_node wsX8_node) := goodIn_app (goodIn_of _ (by decide +kernel)) ggX8_ofVariable_X8_node
theorem dX8_ofVariable_0 : decode cX8_ofVariable 0 = .ok (.aload_n 0, 1) := by decide +kernel
theorem dX8_ofVariable_1 : decode cX8_ofVariable 1 = .ok (.iconst 3, 1) := by decide +kernel
theorem dX8_ofVariable_2 : decode cX8_ofVariable 2 = .ok (.aload_n 0, 1) := by decide +kernel
theorem dX8_ofVariable_3 : decode cX8_ofVariable 3 = .ok (.getfield 120, 3) := by decide +kernel
theorem dX8_ofVariable_6 : decode cX8_ofVariable 6 = .ok (.iload_n 1, 1) := by decide +kernel
theorem dX8_ofVariable_7 : decode cX8_ofVariable 7 = .ok (.iaload, 1) := by decide +kernel
theorem dX8_ofVariable_8 : decode cX8_ofVariable 8 = .ok (.invokevirtual 135, 3) := by decide +kernel
theorem dX8_ofVariable_11 : decode cX8_ofVariable 11 = .ok (.istore_n 2, 1) := by decide +kernel
theorem dX8_ofVariable_12 : decode cX8_ofVariable 12 = .ok (.iconst 0, 1) := by decide +kernel
theorem dX8_ofVariable_13 : decode cX8_ofVariable 13 = .ok (.istore_n 3, 1) := by decide +kernel
theorem dX8_ofVariable_14 : decode cX8_ofVariable 14 = .ok (.iload_n 3, 1) := by decide +kernel
theorem dX8_ofVariable_15 : decode cX8_ofVariable 15 = .ok (.aload_n 0, 1) := by decide +kernel
theorem dX8_ofVariable_16 : decode cX8_ofVariable 16 = .ok (.getfield 62, 3) := by decide +kernel
theorem dX8_ofVariable_19 : decode cX8_ofVariable 19 = .ok (.if_icmp .ge 37, 3) := by decide +kernel
theorem dX8_ofVariable_22 : decode cX8_ofVariable 22 = .ok (.aload_n 0, 1) := by decide +kernel
theorem dX8_ofVariable_23 : decode cX8_ofVariable 23 = .ok (.getfield 138, 3) := by decide +kernel
theorem dX8_ofVariable_26 : decode cX8_ofVariable 26 = .ok (.bipush 80, 2) := by decide +kernel
theorem dX8_ofVariable_28 : decode cX8_ofVariable 28 = .ok (.iload_n 1, 1) := by decide +kernel
theorem dX8_ofVariable_29 : decode cX8_ofVariable 29 = .ok (.imul, 1) := by decide +kernel
theorem dX8_ofVariable_30 : decode cX8_ofVariable 30 = .ok (.iload_n 3, 1) := by decide +kernel
theorem dX8_ofVariable_31 : decode cX8_ofVariable 31 = .ok (.iadd, 1) := by decide +kernel
theorem dX8_ofVariable_32 : decode cX8_ofVariable 32 = .ok (.iload_n 3, 1) := by decide +kernel
theorem dX8_ofVariable_33 : decode cX8_ofVariable 33 = .ok (.aload_n 0, 1) := by decide +kernel
theorem dX8_ofVariable_34 : decode cX8_ofVariable 34 = .ok (.getfield 27, 3) := by decide +kernel
theorem dX8_ofVariable_37 : decode cX8_ofVariable 37 = .ok (.iload_n 1, 1) := by decide +kernel
theorem dX8_ofVariable_38 : decode cX8_ofVariable 38 = .ok (.iaload, 1) := by decide +kernel
theorem dX8_ofVariable_39 : decode cX8_ofVariable 39 = .ok (.if_icmp .ne 9, 3) := by decide +kernel
theorem dX8_ofVariable_42 : decode cX8_ofVariable 42 = .ok (.iconst 3, 1) := by decide +kernel
theorem dX8_ofVariable_43 : decode cX8_ofVariable 43 = .ok (.iload_n 2, 1) := by decide +kernel
theorem dX8_ofVariable_44 : decode cX8_ofVariable 44 = .ok (.imul, 1) := by decide +kernel
theorem dX8_ofVariable_45 : decode cX8_ofVariable 45 = .ok (.goto 4, 3) := by decide +kernel
theorem dX8_ofVariable_48 : decode cX8_ofVariable 48 = .ok (.iconst (-1), 1) := by decide +kernel
theorem dX8_ofVariable_49 : decode cX8_ofVariable 49 = .ok (.iastore, 1) := by decide +kernel
theorem dX8_ofVariable_50 : decode cX8_ofVariable 50 = .ok (.iinc 3 1, 3) := by decide +kernel
theorem dX8_ofVariable_53 : decode cX8_ofVariable 53 = .ok (.goto (-39), 3) := by decide +kernel
theorem dX8_ofVariable_56 : decode cX8_ofVariable 56 = .ok (.iconst 3, 1) := by decide +kernel
theorem dX8_ofVariable_57 : decode cX8_ofVariable 57 = .ok (.iload_n 2, 1) := by decide +kernel
theorem dX8_ofVariable_58 : decode cX8_ofVariable 58 = .ok (.imul, 1) := by decide +kernel
theorem dX8_ofVariable_59 : decode cX8_ofVariable 59 = .ok (.iconst 1, 1) := by decide +kernel
theorem dX8_ofVariable_60 : decode cX8_ofVariable 60 = .ok (.iadd, 1) := by decide +kernel
theorem dX8_ofVariable_61 : decode cX8_ofVariable 61 = .ok (.ireturn, 1) := by decide +kernel
set_option maxRecDepth 20000 in
theorem ggX8_ofBinder_X8_node : GoodIn wsX8_ofBinder wsX8_node := goodIn_r _ [11, 12, 13, 14, 15, 16, 28, 29, 30, 31, 32, 33, 34, 35, 36, 37, 38, 39, 40, 41, 42, 43, 44, 45, 46, 47, 48, 49, 50, 51, 52, 53, 54, 55, 56, 57, 58, 59, 60, 61, 62, 63, 64, 65, 66, 67, 68, 69, 70, 71, 72, 73, 74, 75, 76, 77, 78, 79, 80, 81, 82, 83, 84, 85] (by decide +kernel) (by decide +kernel)
set_option maxRecDepth 20000 in
theorem gX8_ofBinder_X8_node : GoodIn wsX8_ofBinder (wsV RX8 135 RX8 yX8_node wsX8_node) := goodIn_app (goodIn_of _ (by decide +kernel)) ggX8_ofBinder_X8_node
set_option maxRecDepth 20000 in
theorem ggX8_ofBinder_X8_wire : GoodIn wsX8_ofBinder wsX8_wire := goodIn_r _ [20, 21, 22, 23, 24, 10, 25, 14, 26, 27, 28, 29, 30, 31, 32, 33, 34, 35, 36, 37, 38, 39, 40, 41, 42, 43, 44, 45, 46, 47, 48, 49, 50, 51, 52, 53, 54, 55, 56, 57, 58, 59, 60, 61, 62, 63, 64, 65, 66, 67, 68, 69, 70, 71, 72, 73, 74, 75, 76, 77, 78, 79, 80, 81, 82, 83, 84, 85] (by decide +kernel) (by decide +kernel)
set_option maxRecDepth 20000 in
theorem gX8_ofBinder_X8_wire : GoodIn wsX8_ofBinder (wsV RX8 141 RX8 yX8_wire wsX8_wire) := goodIn_app (goodIn_of _ (by decide +kernel)) ggX8_ofBinder_X8_wire
theorem dX8_ofBinder_0 : decode cX8_ofBinder 0 = .ok (.aload_n 0, 1) := by decide +kernel
theorem dX8_ofBinder_1 : decode cX8_ofBinder 1 = .ok (.iconst 0, 1) := by decide +kernel
theorem dX8_ofBinder_2 : decode cX8_ofBinder 2 = .ok (.aload_n 0, 1) := by decide +kernel
theorem dX8_ofBinder_3 : decode cX8_ofBinder 3 = .ok (.getfield 120, 3) := by decide +kernel
theorem dX8_ofBinder_6 : decode cX8_ofBinder 6 = .ok (.iload_n 1, 1) := by decide +kernel
theorem dX8_ofBinder_7 : decode cX8_ofBinder 7 = .ok (.iaload, 1) := by decide +kernel
theorem dX8_ofBinder_8 : decode cX8_ofBinder 8 = .ok (.invokevirtual 135, 3) := by decide +kernel
theorem dX8_ofBinder_11 : decode cX8_ofBinder 11 = .ok (.istore_n 2, 1) := by decide +kernel
theorem dX8_ofBinder_12 : decode cX8_ofBinder 12 = .ok (.bipush 80, 2) := by decide +kernel
theorem dX8_ofBinder_14 : decode cX8_ofBinder 14 = .ok (.aload_n 0, 1) := by decide +kernel
theorem dX8_ofBinder_15 : decode cX8_ofBinder 15 = .ok (.getfield 30, 3) := by decide +kernel
theorem dX8_ofBinder_18 : decode cX8_ofBinder 18 = .ok (.iload_n 1, 1) := by decide +kernel
theorem dX8_ofBinder_19 : decode cX8_ofBinder 19 = .ok (.iaload, 1) := by decide +kernel
theorem dX8_ofBinder_20 : decode cX8_ofBinder 20 = .ok (.imul, 1) := by decide +kernel
theorem dX8_ofBinder_21 : decode cX8_ofBinder 21 = .ok (.istore_n 3, 1) := by decide +kernel
theorem dX8_ofBinder_22 : decode cX8_ofBinder 22 = .ok (.aload_n 0, 1) := by decide +kernel
theorem dX8_ofBinder_23 : decode cX8_ofBinder 23 = .ok (.getfield 138, 3) := by decide +kernel
theorem dX8_ofBinder_26 : decode cX8_ofBinder 26 = .ok (.iload_n 3, 1) := by decide +kernel
theorem dX8_ofBinder_27 : decode cX8_ofBinder 27 = .ok (.aload_n 0, 1) := by decide +kernel
theorem dX8_ofBinder_28 : decode cX8_ofBinder 28 = .ok (.getfield 27, 3) := by decide +kernel
theorem dX8_ofBinder_31 : decode cX8_ofBinder 31 = .ok (.iload_n 1, 1) := by decide +kernel
theorem dX8_ofBinder_32 : decode cX8_ofBinder 32 = .ok (.iaload, 1) := by decide +kernel
theorem dX8_ofBinder_33 : decode cX8_ofBinder 33 = .ok (.iadd, 1) := by decide +kernel
theorem dX8_ofBinder_34 : decode cX8_ofBinder 34 = .ok (.iaload, 1) := by decide +kernel
theorem dX8_ofBinder_35 : decode cX8_ofBinder 35 = .ok (.istore 4, 2) := by decide +kernel
theorem dX8_ofBinder_37 : decode cX8_ofBinder 37 = .ok (.aload_n 0, 1) := by decide +kernel
theorem dX8_ofBinder_38 : decode cX8_ofBinder 38 = .ok (.iconst 3, 1) := by decide +kernel
theorem dX8_ofBinder_39 : decode cX8_ofBinder 39 = .ok (.iload_n 2, 1) := by decide +kernel
theorem dX8_ofBinder_40 : decode cX8_ofBinder 40 = .ok (.imul, 1) := by decide +kernel
theorem dX8_ofBinder_41 : decode cX8_ofBinder 41 = .ok (.iconst 1, 1) := by decide +kernel
theorem dX8_ofBinder_42 : decode cX8_ofBinder 42 = .ok (.iadd, 1) := by decide +kernel
theorem dX8_ofBinder_43 : decode cX8_ofBinder 43 = .ok (.aload_n 0, 1) := by decide +kernel
theorem dX8_ofBinder_44 : decode cX8_ofBinder 44 = .ok (.getfield 123, 3) := by decide +kernel
theorem dX8_ofBinder_47 : decode cX8_ofBinder 47 = .ok (.aload_n 0, 1) := by decide +kernel
theorem dX8_ofBinder_48 : decode cX8_ofBinder 48 = .ok (.getfield 30, 3) := by decide +kernel
theorem dX8_ofBinder_51 : decode cX8_ofBinder 51 = .ok (.iload_n 1, 1) := by decide +kernel
theorem dX8_ofBinder_52 : decode cX8_ofBinder 52 = .ok (.iaload, 1) := by decide +kernel
theorem dX8_ofBinder_53 : decode cX8_ofBinder 53 = .ok (.iaload, 1) := by decide +kernel
theorem dX8_ofBinder_54 : decode cX8_ofBinder 54 = .ok (.invokevirtual 141, 3) := by decide +kernel
theorem dX8_ofBinder_57 : decode cX8_ofBinder 57 = .ok (.aload_n 0, 1) := by decide +kernel
theorem dX8_ofBinder_58 : decode cX8_ofBinder 58 = .ok (.iconst 3, 1) := by decide +kernel
theorem dX8_ofBinder_59 : decode cX8_ofBinder 59 = .ok (.iload_n 2, 1) := by decide +kernel
theorem dX8_ofBinder_60 : decode cX8_ofBinder 60 = .ok (.imul, 1) := by decide +kernel
theorem dX8_ofBinder_61 : decode cX8_ofBinder 61 = .ok (.iconst 2, 1) := by decide +kernel
theorem dX8_ofBinder_62 : decode cX8_ofBinder 62 = .ok (.iadd, 1) := by decide +kernel
theorem dX8_ofBinder_63 : decode cX8_ofBinder 63 = .ok (.iload 4, 2) := by decide +kernel
theorem dX8_ofBinder_65 : decode cX8_ofBinder 65 = .ok (.ifCond .ge 14, 3) := by decide +kernel
theorem dX8_ofBinder_68 : decode cX8_ofBinder 68 = .ok (.iconst 3, 1) := by decide +kernel
theorem dX8_ofBinder_69 : decode cX8_ofBinder 69 = .ok (.aload_n 0, 1) := by decide +kernel
theorem dX8_ofBinder_70 : decode cX8_ofBinder 70 = .ok (.iconst 5, 1) := by decide +kernel
theorem dX8_ofBinder_71 : decode cX8_ofBinder 71 = .ok (.iconst 0, 1) := by decide +kernel
theorem dX8_ofBinder_72 : decode cX8_ofBinder 72 = .ok (.invokevirtual 135, 3) := by decide +kernel
theorem dX8_ofBinder_75 : decode cX8_ofBinder 75 = .ok (.imul, 1) := by decide +kernel
theorem dX8_ofBinder_76 : decode cX8_ofBinder 76 = .ok (.goto 5, 3) := by decide +kernel
theorem dX8_ofBinder_79 : decode cX8_ofBinder 79 = .ok (.iload 4, 2) := by decide +kernel
theorem dX8_ofBinder_81 : decode cX8_ofBinder 81 = .ok (.invokevirtual 141, 3) := by decide +kernel
theorem dX8_ofBinder_84 : decode cX8_ofBinder 84 = .ok (.iconst 0, 1) := by decide +kernel
theorem dX8_ofBinder_85 : decode cX8_ofBinder 85 = .ok (.istore 5, 2) := by decide +kernel
theorem dX8_ofBinder_87 : decode cX8_ofBinder 87 = .ok (.iload 5, 2) := by decide +kernel
theorem dX8_ofBinder_89 : decode cX8_ofBinder 89 = .ok (.aload_n 0, 1) := by decide +kernel
theorem dX8_ofBinder_90 : decode cX8_ofBinder 90 = .ok (.getfield 62, 3) := by decide +kernel
theorem dX8_ofBinder_93 : decode cX8_ofBinder 93 = .ok (.if_icmp .ge 45, 3) := by decide +kernel
theorem dX8_ofBinder_96 : decode cX8_ofBinder 96 = .ok (.aload_n 0, 1) := by decide +kernel
theorem dX8_ofBinder_97 : decode cX8_ofBinder 97 = .ok (.getfield 138, 3) := by decide +kernel
theorem dX8_ofBinder_100 : decode cX8_ofBinder 100 = .ok (.bipush 80, 2) := by decide +kernel
theorem dX8_ofBinder_102 : decode cX8_ofBinder 102 = .ok (.iload_n 1, 1) := by decide +kernel
theorem dX8_ofBinder_103 : decode cX8_ofBinder 103 = .ok (.imul, 1) := by decide +kernel
theorem dX8_ofBinder_104 : decode cX8_ofBinder 104 = .ok (.iload 5, 2) := by decide +kernel
theorem dX8_ofBinder_106 : decode cX8_ofBinder 106 = .ok (.iadd, 1) := by decide +kernel
theorem dX8_ofBinder_107 : decode cX8_ofBinder 107 = .ok (.iload 5, 2) := by decide +kernel
theorem dX8_ofBinder_109 : decode cX8_ofBinder 109 = .ok (.aload_n 0, 1) := by decide +kernel
theorem dX8_ofBinder_110 : decode cX8_ofBinder 110 = .ok (.getfield 27, 3) := by decide +kernel
theorem dX8_ofBinder_113 : decode cX8_ofBinder 113 = .ok (.iload_n 1, 1) := by decide +kernel
theorem dX8_ofBinder_114 : decode cX8_ofBinder 114 = .ok (.iaload, 1) := by decide +kernel
theorem dX8_ofBinder_115 : decode cX8_ofBinder 115 = .ok (.if_icmp .ne 7, 3) := by decide +kernel
theorem dX8_ofBinder_118 : decode cX8_ofBinder 118 = .ok (.iconst (-1), 1) := by decide +kernel
theorem dX8_ofBinder_119 : decode cX8_ofBinder 119 = .ok (.goto 12, 3) := by decide +kernel
theorem dX8_ofBinder_122 : decode cX8_ofBinder 122 = .ok (.aload_n 0, 1) := by decide +kernel
theorem dX8_ofBinder_123 : decode cX8_ofBinder 123 = .ok (.getfield 138, 3) := by decide +kernel
theorem dX8_ofBinder_126 : decode cX8_ofBinder 126 = .ok (.iload_n 3, 1) := by decide +kernel
theorem dX8_ofBinder_127 : decode cX8_ofBinder 127 = .ok (.iload 5, 2) := by decide +kernel
theorem dX8_ofBinder_129 : decode cX8_ofBinder 129 = .ok (.iadd, 1) := by decide +kernel
theorem dX8_ofBinder_130 : decode cX8_ofBinder 130 = .ok (.iaload, 1) := by decide +kernel
theorem dX8_ofBinder_131 : decode cX8_ofBinder 131 = .ok (.iastore, 1) := by decide +kernel
theorem dX8_ofBinder_132 : decode cX8_ofBinder 132 = .ok (.iinc 5 1, 3) := by decide +kernel
theorem dX8_ofBinder_135 : decode cX8_ofBinder 135 = .ok (.goto (-48), 3) := by decide +kernel
theorem dX8_ofBinder_138 : decode cX8_ofBinder 138 = .ok (.iconst 3, 1) := by decide +kernel
theorem dX8_ofBinder_139 : decode cX8_ofBinder 139 = .ok (.iload_n 2, 1) := by decide +kernel
theorem dX8_ofBinder_140 : decode cX8_ofBinder 140 = .ok (.imul, 1) := by decide +kernel
theorem dX8_ofBinder_141 : decode cX8_ofBinder 141 = .ok (.ireturn, 1) := by decide +kernel
set_option maxRecDepth 20000 in
theorem ggX8_ofApplied_X8_node : GoodIn wsX8_ofApplied wsX8_node := goodIn_r _ [11, 12, 13, 14, 15, 16, 28, 29, 30, 31, 32, 33, 34, 35, 36, 37, 38, 39, 40, 41, 42, 43, 44, 45, 46, 47, 48, 49, 50, 51, 52, 53, 54, 55, 56, 57, 58, 59, 60, 61, 62, 63, 64, 65, 66, 67, 68, 69, 70, 71, 72, 73, 74, 75, 76, 77, 78, 79, 80, 81, 82, 83, 84, 85] (by decide +kernel) (by decide +kernel)
set_option maxRecDepth 20000 in
theorem gX8_ofApplied_X8_node : GoodIn wsX8_ofApplied (wsV RX8 135 RX8 yX8_node wsX8_node) := goodIn_app (goodIn_of _ (by decide +kernel)) ggX8_ofApplied_X8_node
set_option maxRecDepth 20000 in
theorem ggX8_ofApplied_X8_wire : GoodIn wsX8_ofApplied wsX8_wire := goodIn_r _ [20, 21, 22, 23, 24, 10, 25, 14, 26, 27, 28, 29, 30, 31, 32, 33, 34, 35, 36, 37, 38, 39, 40, 41, 42, 43, 44, 45, 46, 47, 48, 49, 50, 51, 52, 53, 54, 55, 56, 57, 58, 59, 60, 61, 62, 63, 64, 65, 66, 67, 68, 69, 70, 71, 72, 73, 74, 75, 76, 77, 78, 79, 80, 81, 82, 83, 84, 85] (by decide +kernel) (by decide +kernel)
set_option maxRecDepth 20000 in
theorem gX8_ofApplied_X8_wire : GoodIn wsX8_ofApplied (wsV RX8 141 RX8 yX8_wire wsX8_wire) := goodIn_app (goodIn_of _ (by decide +kernel)) ggX8_ofApplied_X8_wire
theorem dX8_ofApplied_0 : decode cX8_ofApplied 0 = .ok (.aload_n 0, 1) := by decide +kernel
theorem dX8_ofApplied_1 : decode cX8_ofApplied 1 = .ok (.getfield 120, 3) := by decide +kernel
theorem dX8_ofApplied_4 : decode cX8_ofApplied 4 = .ok (.iload_n 1, 1) := by decide +kernel
theorem dX8_ofApplied_5 : decode cX8_ofApplied 5 = .ok (.iaload, 1) := by decide +kernel
theorem dX8_ofApplied_6 : decode cX8_ofApplied 6 = .ok (.istore_n 2, 1) := by decide +kernel
theorem dX8_ofApplied_7 : decode cX8_ofApplied 7 = .ok (.aload_n 0, 1) := by decide +kernel
theorem dX8_ofApplied_8 : decode cX8_ofApplied 8 = .ok (.iconst 1, 1) := by decide +kernel
theorem dX8_ofApplied_9 : decode cX8_ofApplied 9 = .ok (.iload_n 2, 1) := by decide +kernel
theorem dX8_ofApplied_10 : decode cX8_ofApplied 10 = .ok (.invokevirtual 135, 3) := by decide +kernel
theorem dX8_ofApplied_13 : decode cX8_ofApplied 13 = .ok (.istore_n 3, 1) := by decide +kernel
theorem dX8_ofApplied_14 : decode cX8_ofApplied 14 = .ok (.aload_n 0, 1) := by decide +kernel
theorem dX8_ofApplied_15 : decode cX8_ofApplied 15 = .ok (.iconst 3, 1) := by decide +kernel
theorem dX8_ofApplied_16 : decode cX8_ofApplied 16 = .ok (.iload_n 3, 1) := by decide +kernel
theorem dX8_ofApplied_17 : decode cX8_ofApplied 17 = .ok (.imul, 1) := by decide +kernel
theorem dX8_ofApplied_18 : decode cX8_ofApplied 18 = .ok (.aload_n 0, 1) := by decide +kernel
theorem dX8_ofApplied_19 : decode cX8_ofApplied 19 = .ok (.getfield 123, 3) := by decide +kernel
theorem dX8_ofApplied_22 : decode cX8_ofApplied 22 = .ok (.aload_n 0, 1) := by decide +kernel
theorem dX8_ofApplied_23 : decode cX8_ofApplied 23 = .ok (.getfield 27, 3) := by decide +kernel
theorem dX8_ofApplied_26 : decode cX8_ofApplied 26 = .ok (.iload_n 1, 1) := by decide +kernel
theorem dX8_ofApplied_27 : decode cX8_ofApplied 27 = .ok (.iaload, 1) := by decide +kernel
theorem dX8_ofApplied_28 : decode cX8_ofApplied 28 = .ok (.iaload, 1) := by decide +kernel
theorem dX8_ofApplied_29 : decode cX8_ofApplied 29 = .ok (.invokevirtual 141, 3) := by decide +kernel
theorem dX8_ofApplied_32 : decode cX8_ofApplied 32 = .ok (.aload_n 0, 1) := by decide +kernel
theorem dX8_ofApplied_33 : decode cX8_ofApplied 33 = .ok (.iconst 3, 1) := by decide +kernel
theorem dX8_ofApplied_34 : decode cX8_ofApplied 34 = .ok (.iload_n 3, 1) := by decide +kernel
theorem dX8_ofApplied_35 : decode cX8_ofApplied 35 = .ok (.imul, 1) := by decide +kernel
theorem dX8_ofApplied_36 : decode cX8_ofApplied 36 = .ok (.iconst 2, 1) := by decide +kernel
theorem dX8_ofApplied_37 : decode cX8_ofApplied 37 = .ok (.iadd, 1) := by decide +kernel
theorem dX8_ofApplied_38 : decode cX8_ofApplied 38 = .ok (.aload_n 0, 1) := by decide +kernel
theorem dX8_ofApplied_39 : decode cX8_ofApplied 39 = .ok (.getfield 123, 3) := by decide +kernel
theorem dX8_ofApplied_42 : decode cX8_ofApplied 42 = .ok (.aload_n 0, 1) := by decide +kernel
theorem dX8_ofApplied_43 : decode cX8_ofApplied 43 = .ok (.getfield 30, 3) := by decide +kernel
theorem dX8_ofApplied_46 : decode cX8_ofApplied 46 = .ok (.iload_n 1, 1) := by decide +kernel
theorem dX8_ofApplied_47 : decode cX8_ofApplied 47 = .ok (.iaload, 1) := by decide +kernel
theorem dX8_ofApplied_48 : decode cX8_ofApplied 48 = .ok (.iaload, 1) := by decide +kernel
theorem dX8_ofApplied_49 : decode cX8_ofApplied 49 = .ok (.invokevirtual 141, 3) := by decide +kernel
theorem dX8_ofApplied_52 : decode cX8_ofApplied 52 = .ok (.iconst 0, 1) := by decide +kernel
theorem dX8_ofApplied_53 : decode cX8_ofApplied 53 = .ok (.istore 4, 2) := by decide +kernel
theorem dX8_ofApplied_55 : decode cX8_ofApplied 55 = .ok (.iload 4, 2) := by decide +kernel
theorem dX8_ofApplied_57 : decode cX8_ofApplied 57 = .ok (.aload_n 0, 1) := by decide +kernel
theorem dX8_ofApplied_58 : decode cX8_ofApplied 58 = .ok (.getfield 62, 3) := by decide +kernel
theorem dX8_ofApplied_61 : decode cX8_ofApplied 61 = .ok (.if_icmp .ge 150, 3) := by decide +kernel
theorem dX8_ofApplied_64 : decode cX8_ofApplied 64 = .ok (.aload_n 0, 1) := by decide +kernel
theorem dX8_ofApplied_65 : decode cX8_ofApplied 65 = .ok (.getfield 138, 3) := by decide +kernel
theorem dX8_ofApplied_68 : decode cX8_ofApplied 68 = .ok (.bipush 80, 2) := by decide +kernel
theorem dX8_ofApplied_70 : decode cX8_ofApplied 70 = .ok (.aload_n 0, 1) := by decide +kernel
theorem dX8_ofApplied_71 : decode cX8_ofApplied 71 = .ok (.getfield 27, 3) := by decide +kernel
theorem dX8_ofApplied_74 : decode cX8_ofApplied 74 = .ok (.iload_n 1, 1) := by decide +kernel
theorem dX8_ofApplied_75 : decode cX8_ofApplied 75 = .ok (.iaload, 1) := by decide +kernel
theorem dX8_ofApplied_76 : decode cX8_ofApplied 76 = .ok (.imul, 1) := by decide +kernel
theorem dX8_ofApplied_77 : decode cX8_ofApplied 77 = .ok (.iload 4, 2) := by decide +kernel
theorem dX8_ofApplied_79 : decode cX8_ofApplied 79 = .ok (.iadd, 1) := by decide +kernel
theorem dX8_ofApplied_80 : decode cX8_ofApplied 80 = .ok (.iaload, 1) := by decide +kernel
theorem dX8_ofApplied_81 : decode cX8_ofApplied 81 = .ok (.istore 5, 2) := by decide +kernel
theorem dX8_ofApplied_83 : decode cX8_ofApplied 83 = .ok (.aload_n 0, 1) := by decide +kernel
theorem dX8_ofApplied_84 : decode cX8_ofApplied 84 = .ok (.getfield 138, 3) := by decide +kernel
theorem dX8_ofApplied_87 : decode cX8_ofApplied 87 = .ok (.bipush 80, 2) := by decide +kernel
theorem dX8_ofApplied_89 : decode cX8_ofApplied 89 = .ok (.aload_n 0, 1) := by decide +kernel
theorem dX8_ofApplied_90 : decode cX8_ofApplied 90 = .ok (.getfield 30, 3) := by decide +kernel
theorem dX8_ofApplied_93 : decode cX8_ofApplied 93 = .ok (.iload_n 1, 1) := by decide +kernel
theorem dX8_ofApplied_94 : decode cX8_ofApplied 94 = .ok (.iaload, 1) := by decide +kernel
theorem dX8_ofApplied_95 : decode cX8_ofApplied 95 = .ok (.imul, 1) := by decide +kernel
theorem dX8_ofApplied_96 : decode cX8_ofApplied 96 = .ok (.iload 4, 2) := by decide +kernel
theorem dX8_ofApplied_98 : decode cX8_ofApplied 98 = .ok (.iadd, 1) := by decide +kernel
theorem dX8_ofApplied_99 : decode cX8_ofApplied 99 = .ok (.iaload, 1) := by decide +kernel
theorem dX8_ofApplied_100 : decode cX8_ofApplied 100 = .ok (.istore 6, 2) := by decide +kernel
theorem dX8_ofApplied_102 : decode cX8_ofApplied 102 = .ok (.iload 6, 2) := by decide +kernel
theorem dX8_ofApplied_104 : decode cX8_ofApplied 104 = .ok (.ifCond .lt 29, 3) := by decide +kernel
theorem dX8_ofApplied_107 : decode cX8_ofApplied 107 = .ok (.aload_n 0, 1) := by decide +kernel
theorem dX8_ofApplied_108 : decode cX8_ofApplied 108 = .ok (.iconst 4, 1) := by decide +kernel
theorem dX8_ofApplied_109 : decode cX8_ofApplied 109 = .ok (.iload_n 2, 1) := by decide +kernel
theorem dX8_ofApplied_110 : decode cX8_ofApplied 110 = .ok (.invokevirtual 135, 3) := by decide +kernel
theorem dX8_ofApplied_113 : decode cX8_ofApplied 113 = .ok (.istore 7, 2) := by decide +kernel
theorem dX8_ofApplied_115 : decode cX8_ofApplied 115 = .ok (.aload_n 0, 1) := by decide +kernel
theorem dX8_ofApplied_116 : decode cX8_ofApplied 116 = .ok (.iconst 3, 1) := by decide +kernel
theorem dX8_ofApplied_117 : decode cX8_ofApplied 117 = .ok (.iload 7, 2) := by decide +kernel
theorem dX8_ofApplied_119 : decode cX8_ofApplied 119 = .ok (.imul, 1) := by decide +kernel
theorem dX8_ofApplied_120 : decode cX8_ofApplied 120 = .ok (.iconst 1, 1) := by decide +kernel
theorem dX8_ofApplied_121 : decode cX8_ofApplied 121 = .ok (.iadd, 1) := by decide +kernel
theorem dX8_ofApplied_122 : decode cX8_ofApplied 122 = .ok (.iload 6, 2) := by decide +kernel
theorem dX8_ofApplied_124 : decode cX8_ofApplied 124 = .ok (.invokevirtual 141, 3) := by decide +kernel
theorem dX8_ofApplied_127 : decode cX8_ofApplied 127 = .ok (.iconst 3, 1) := by decide +kernel
theorem dX8_ofApplied_128 : decode cX8_ofApplied 128 = .ok (.iload 7, 2) := by decide +kernel
theorem dX8_ofApplied_130 : decode cX8_ofApplied 130 = .ok (.imul, 1) := by decide +kernel
theorem dX8_ofApplied_131 : decode cX8_ofApplied 131 = .ok (.istore 6, 2) := by decide +kernel
theorem dX8_ofApplied_133 : decode cX8_ofApplied 133 = .ok (.iload 5, 2) := by decide +kernel
theorem dX8_ofApplied_135 : decode cX8_ofApplied 135 = .ok (.ifCond .lt 46, 3) := by decide +kernel
theorem dX8_ofApplied_138 : decode cX8_ofApplied 138 = .ok (.iload 6, 2) := by decide +kernel
theorem dX8_ofApplied_140 : decode cX8_ofApplied 140 = .ok (.ifCond .lt 41, 3) := by decide +kernel
theorem dX8_ofApplied_143 : decode cX8_ofApplied 143 = .ok (.aload_n 0, 1) := by decide +kernel
theorem dX8_ofApplied_144 : decode cX8_ofApplied 144 = .ok (.iconst 2, 1) := by decide +kernel
theorem dX8_ofApplied_145 : decode cX8_ofApplied 145 = .ok (.iload_n 2, 1) := by decide +kernel
theorem dX8_ofApplied_146 : decode cX8_ofApplied 146 = .ok (.invokevirtual 135, 3) := by decide +kernel
theorem dX8_ofApplied_149 : decode cX8_ofApplied 149 = .ok (.istore 7, 2) := by decide +kernel
theorem dX8_ofApplied_151 : decode cX8_ofApplied 151 = .ok (.aload_n 0, 1) := by decide +kernel
theorem dX8_ofApplied_152 : decode cX8_ofApplied 152 = .ok (.iconst 3, 1) := by decide +kernel
theorem dX8_ofApplied_153 : decode cX8_ofApplied 153 = .ok (.iload 7, 2) := by decide +kernel
theorem dX8_ofApplied_155 : decode cX8_ofApplied 155 = .ok (.imul, 1) := by decide +kernel
theorem dX8_ofApplied_156 : decode cX8_ofApplied 156 = .ok (.iconst 1, 1) := by decide +kernel
theorem dX8_ofApplied_157 : decode cX8_ofApplied 157 = .ok (.iadd, 1) := by decide +kernel
theorem dX8_ofApplied_158 : decode cX8_ofApplied 158 = .ok (.iload 5, 2) := by decide +kernel
theorem dX8_ofApplied_160 : decode cX8_ofApplied 160 = .ok (.invokevirtual 141, 3) := by decide +kernel
theorem dX8_ofApplied_163 : decode cX8_ofApplied 163 = .ok (.aload_n 0, 1) := by decide +kernel
theorem dX8_ofApplied_164 : decode cX8_ofApplied 164 = .ok (.iconst 3, 1) := by decide +kernel
theorem dX8_ofApplied_165 : decode cX8_ofApplied 165 = .ok (.iload 7, 2) := by decide +kernel
theorem dX8_ofApplied_167 : decode cX8_ofApplied 167 = .ok (.imul, 1) := by decide +kernel
theorem dX8_ofApplied_168 : decode cX8_ofApplied 168 = .ok (.iconst 2, 1) := by decide +kernel
theorem dX8_ofApplied_169 : decode cX8_ofApplied 169 = .ok (.iadd, 1) := by decide +kernel
theorem dX8_ofApplied_170 : decode cX8_ofApplied 170 = .ok (.iload 6, 2) := by decide +kernel
theorem dX8_ofApplied_172 : decode cX8_ofApplied 172 = .ok (.invokevirtual 141, 3) := by decide +kernel
theorem dX8_ofApplied_175 : decode cX8_ofApplied 175 = .ok (.iconst 3, 1) := by decide +kernel
theorem dX8_ofApplied_176 : decode cX8_ofApplied 176 = .ok (.iload 7, 2) := by decide +kernel
theorem dX8_ofApplied_178 : decode cX8_ofApplied 178 = .ok (.imul, 1) := by decide +kernel
theorem dX8_ofApplied_179 : decode cX8_ofApplied 179 = .ok (.istore 5, 2) := by decide +kernel
theorem dX8_ofApplied_181 : decode cX8_ofApplied 181 = .ok (.aload_n 0, 1) := by decide +kernel
theorem dX8_ofApplied_182 : decode cX8_ofApplied 182 = .ok (.getfield 138, 3) := by decide +kernel
theorem dX8_ofApplied_185 : decode cX8_ofApplied 185 = .ok (.bipush 80, 2) := by decide +kernel
theorem dX8_ofApplied_187 : decode cX8_ofApplied 187 = .ok (.iload_n 1, 1) := by decide +kernel
theorem dX8_ofApplied_188 : decode cX8_ofApplied 188 = .ok (.imul, 1) := by decide +kernel
theorem dX8_ofApplied_189 : decode cX8_ofApplied 189 = .ok (.iload 4, 2) := by decide +kernel
theorem dX8_ofApplied_191 : decode cX8_ofApplied 191 = .ok (.iadd, 1) := by decide +kernel
theorem dX8_ofApplied_192 : decode cX8_ofApplied 192 = .ok (.iload 5, 2) := by decide +kernel
theorem dX8_ofApplied_194 : decode cX8_ofApplied 194 = .ok (.ifCond .lt 8, 3) := by decide +kernel
theorem dX8_ofApplied_197 : decode cX8_ofApplied 197 = .ok (.iload 5, 2) := by decide +kernel
theorem dX8_ofApplied_199 : decode cX8_ofApplied 199 = .ok (.goto 5, 3) := by decide +kernel
theorem dX8_ofApplied_202 : decode cX8_ofApplied 202 = .ok (.iload 6, 2) := by decide +kernel
theorem dX8_ofApplied_204 : decode cX8_ofApplied 204 = .ok (.iastore, 1) := by decide +kernel
theorem dX8_ofApplied_205 : decode cX8_ofApplied 205 = .ok (.iinc 4 1, 3) := by decide +kernel
theorem dX8_ofApplied_208 : decode cX8_ofApplied 208 = .ok (.goto (-153), 3) := by decide +kernel
theorem dX8_ofApplied_211 : decode cX8_ofApplied 211 = .ok (.iconst 3, 1) := by decide +kernel
theorem dX8_ofApplied_212 : decode cX8_ofApplied 212 = .ok (.iload_n 3, 1) := by decide +kernel
theorem dX8_ofApplied_213 : decode cX8_ofApplied 213 = .ok (.imul, 1) := by decide +kernel
theorem dX8_ofApplied_214 : decode cX8_ofApplied 214 = .ok (.iconst 1, 1) := by decide +kernel
theorem dX8_ofApplied_215 : decode cX8_ofApplied 215 = .ok (.iadd, 1) := by decide +kernel
theorem dX8_ofApplied_216 : decode cX8_ofApplied 216 = .ok (.ireturn, 1) := by decide +kernel
set_option maxRecDepth 20000 in
theorem ggX8_build_X8_ofVariable : GoodIn wsX8_build wsX8_ofVariable := goodIn_r _ [10, 1, 11, 12, 3, 13, 14, 15, 9, 16, 17, 18, 19, 20, 21, 41, 42, 43, 44, 45, 46, 47, 48, 49, 50, 51, 52, 53, 54, 55, 56, 57, 58, 59, 60, 61, 62, 63, 64, 65, 66, 67, 68, 69, 70, 71, 72, 73, 74, 75, 76, 77, 78, 79, 80, 81, 82, 83, 84, 85, 86, 87, 88, 89, 90, 91, 92, 93, 94, 95, 96, 97, 98] (by decide +kernel) (by decide +kernel)
set_option maxRecDepth 20000 in
theorem gX8_build_X8_ofVariable : GoodIn wsX8_build (wsV RX8 126 RX8 yX8_ofVariable wsX8_ofVariable) := goodIn_app (goodIn_of _ (by decide +kernel)) ggX8_build_X8_ofVariable
set_option maxRecDepth 20000 in
theorem ggX8_build_X8_ofBinder : GoodIn wsX8_build wsX8_ofBinder := goodIn_r _ [25, 1, 4, 12, 3, 5, 11, 13, 14, 15, 9, 16, 17, 18, 19, 20, 21, 26, 27, 28, 29, 30, 31, 32, 33, 34, 35, 36, 41, 42, 43, 44, 45, 46, 47, 48, 49, 50, 51, 52, 53, 54, 55, 56, 57, 58, 59, 60, 61, 62, 63, 64, 65, 66, 67, 68, 69, 70, 71, 72, 73, 74, 75, 76, 77, 78, 79, 80, 81, 82, 83, 84, 85, 86, 87, 88, 89, 90, 91, 92, 93, 94, 95, 96, 97, 98] (by decide +kernel) (by decide +kernel)
set_option maxRecDepth 20000 in
theorem gX8_build_X8_ofBinder : GoodIn wsX8_build (wsV RX8 129 RX8 yX8_ofBinder wsX8_ofBinder) := goodIn_app (goodIn_of _ (by decide +kernel)) ggX8_build_X8_ofBinder
set_option maxRecDepth 20000 in
theorem ggX8_build_X8_ofApplied : GoodIn wsX8_build wsX8_ofApplied := goodIn_r _ [40, 1, 5, 3, 4, 11, 12, 13, 14, 15, 9, 16, 17, 18, 19, 20, 21, 26, 27, 28, 29, 30, 31, 32, 33, 34, 35, 36, 41, 42, 43, 44, 45, 46, 47, 48, 49, 50, 51, 52, 53, 54, 55, 56, 57, 58, 59, 60, 61, 62, 63, 64, 65, 66, 67, 68, 69, 70, 71, 72, 73, 74, 75, 76, 77, 78, 79, 80, 81, 82, 83, 84, 85, 86, 87, 88, 89, 90, 91, 92, 93, 94, 95, 96, 97, 98] (by decide +kernel) (by decide +kernel)
set_option maxRecDepth 20000 in
theorem gX8_build_X8_ofApplied : GoodIn wsX8_build (wsV RX8 132 RX8 yX8_ofApplied wsX8_ofApplied) := goodIn_app (goodIn_of _ (by decide +kernel)) ggX8_build_X8_ofApplied
theorem dX8_build_0 : decode cX8_build 0 = .ok (.aload_n 0, 1) := by decide +kernel
theorem dX8_build_1 : decode cX8_build 1 = .ok (.getfield 120, 3) := by decide +kernel
theorem dX8_build_4 : decode cX8_build 4 = .ok (.iload_n 1, 1) := by decide +kernel
theorem dX8_build_5 : decode cX8_build 5 = .ok (.iconst 0, 1) := by decide +kernel
theorem dX8_build_6 : decode cX8_build 6 = .ok (.iastore, 1) := by decide +kernel
theorem dX8_build_7 : decode cX8_build 7 = .ok (.iload_n 1, 1) := by decide +kernel
theorem dX8_build_8 : decode cX8_build 8 = .ok (.istore_n 2, 1) := by decide +kernel
theorem dX8_build_9 : decode cX8_build 9 = .ok (.iload_n 2, 1) := by decide +kernel
theorem dX8_build_10 : decode cX8_build 10 = .ok (.ifCond .lt 85, 3) := by decide +kernel
theorem dX8_build_13 : decode cX8_build 13 = .ok (.aload_n 0, 1) := by decide +kernel
theorem dX8_build_14 : decode cX8_build 14 = .ok (.getfield 20, 3) := by decide +kernel
theorem dX8_build_17 : decode cX8_build 17 = .ok (.iload_n 2, 1) := by decide +kernel
theorem dX8_build_18 : decode cX8_build 18 = .ok (.iaload, 1) := by decide +kernel
theorem dX8_build_19 : decode cX8_build 19 = .ok (.iconst 2, 1) := by decide +kernel
theorem dX8_build_20 : decode cX8_build 20 = .ok (.if_icmp .ne 42, 3) := by decide +kernel
theorem dX8_build_23 : decode cX8_build 23 = .ok (.aload_n 0, 1) := by decide +kernel
theorem dX8_build_24 : decode cX8_build 24 = .ok (.getfield 120, 3) := by decide +kernel
theorem dX8_build_27 : decode cX8_build 27 = .ok (.aload_n 0, 1) := by decide +kernel
theorem dX8_build_28 : decode cX8_build 28 = .ok (.getfield 27, 3) := by decide +kernel
theorem dX8_build_31 : decode cX8_build 31 = .ok (.iload_n 2, 1) := by decide +kernel
theorem dX8_build_32 : decode cX8_build 32 = .ok (.iaload, 1) := by decide +kernel
theorem dX8_build_33 : decode cX8_build 33 = .ok (.aload_n 0, 1) := by decide +kernel
theorem dX8_build_34 : decode cX8_build 34 = .ok (.getfield 120, 3) := by decide +kernel
theorem dX8_build_37 : decode cX8_build 37 = .ok (.iload_n 2, 1) := by decide +kernel
theorem dX8_build_38 : decode cX8_build 38 = .ok (.iaload, 1) := by decide +kernel
theorem dX8_build_39 : decode cX8_build 39 = .ok (.iastore, 1) := by decide +kernel
theorem dX8_build_40 : decode cX8_build 40 = .ok (.aload_n 0, 1) := by decide +kernel
theorem dX8_build_41 : decode cX8_build 41 = .ok (.getfield 120, 3) := by decide +kernel
theorem dX8_build_44 : decode cX8_build 44 = .ok (.aload_n 0, 1) := by decide +kernel
theorem dX8_build_45 : decode cX8_build 45 = .ok (.getfield 30, 3) := by decide +kernel
theorem dX8_build_48 : decode cX8_build 48 = .ok (.iload_n 2, 1) := by decide +kernel
theorem dX8_build_49 : decode cX8_build 49 = .ok (.iaload, 1) := by decide +kernel
theorem dX8_build_50 : decode cX8_build 50 = .ok (.aload_n 0, 1) := by decide +kernel
theorem dX8_build_51 : decode cX8_build 51 = .ok (.getfield 120, 3) := by decide +kernel
theorem dX8_build_54 : decode cX8_build 54 = .ok (.iload_n 2, 1) := by decide +kernel
theorem dX8_build_55 : decode cX8_build 55 = .ok (.iaload, 1) := by decide +kernel
theorem dX8_build_56 : decode cX8_build 56 = .ok (.iconst 1, 1) := by decide +kernel
theorem dX8_build_57 : decode cX8_build 57 = .ok (.iadd, 1) := by decide +kernel
theorem dX8_build_58 : decode cX8_build 58 = .ok (.iastore, 1) := by decide +kernel
theorem dX8_build_59 : decode cX8_build 59 = .ok (.goto 30, 3) := by decide +kernel
theorem dX8_build_62 : decode cX8_build 62 = .ok (.aload_n 0, 1) := by decide +kernel
theorem dX8_build_63 : decode cX8_build 63 = .ok (.getfield 20, 3) := by decide +kernel
theorem dX8_build_66 : decode cX8_build 66 = .ok (.iload_n 2, 1) := by decide +kernel
theorem dX8_build_67 : decode cX8_build 67 = .ok (.iaload, 1) := by decide +kernel
theorem dX8_build_68 : decode cX8_build 68 = .ok (.iconst 1, 1) := by decide +kernel
theorem dX8_build_69 : decode cX8_build 69 = .ok (.if_icmp .ne 20, 3) := by decide +kernel
theorem dX8_build_72 : decode cX8_build 72 = .ok (.aload_n 0, 1) := by decide +kernel
theorem dX8_build_73 : decode cX8_build 73 = .ok (.getfield 120, 3) := by decide +kernel
theorem dX8_build_76 : decode cX8_build 76 = .ok (.aload_n 0, 1) := by decide +kernel
theorem dX8_build_77 : decode cX8_build 77 = .ok (.getfield 30, 3) := by decide +kernel
theorem dX8_build_80 : decode cX8_build 80 = .ok (.iload_n 2, 1) := by decide +kernel
theorem dX8_build_81 : decode cX8_build 81 = .ok (.iaload, 1) := by decide +kernel
theorem dX8_build_82 : decode cX8_build 82 = .ok (.aload_n 0, 1) := by decide +kernel
theorem dX8_build_83 : decode cX8_build 83 = .ok (.getfield 120, 3) := by decide +kernel
theorem dX8_build_86 : decode cX8_build 86 = .ok (.iload_n 2, 1) := by decide +kernel
theorem dX8_build_87 : decode cX8_build 87 = .ok (.iaload, 1) := by decide +kernel
theorem dX8_build_88 : decode cX8_build 88 = .ok (.iastore, 1) := by decide +kernel
theorem dX8_build_89 : decode cX8_build 89 = .ok (.iinc 2 (-1), 3) := by decide +kernel
theorem dX8_build_92 : decode cX8_build 92 = .ok (.goto (-83), 3) := by decide +kernel
theorem dX8_build_95 : decode cX8_build 95 = .ok (.iconst 0, 1) := by decide +kernel
theorem dX8_build_96 : decode cX8_build 96 = .ok (.istore_n 2, 1) := by decide +kernel
theorem dX8_build_97 : decode cX8_build 97 = .ok (.iload_n 2, 1) := by decide +kernel
theorem dX8_build_98 : decode cX8_build 98 = .ok (.iload_n 1, 1) := by decide +kernel
theorem dX8_build_99 : decode cX8_build 99 = .ok (.if_icmp .gt 55, 3) := by decide +kernel
theorem dX8_build_102 : decode cX8_build 102 = .ok (.aload_n 0, 1) := by decide +kernel
theorem dX8_build_103 : decode cX8_build 103 = .ok (.getfield 123, 3) := by decide +kernel
theorem dX8_build_106 : decode cX8_build 106 = .ok (.iload_n 2, 1) := by decide +kernel
theorem dX8_build_107 : decode cX8_build 107 = .ok (.aload_n 0, 1) := by decide +kernel
theorem dX8_build_108 : decode cX8_build 108 = .ok (.getfield 20, 3) := by decide +kernel
theorem dX8_build_111 : decode cX8_build 111 = .ok (.iload_n 2, 1) := by decide +kernel
theorem dX8_build_112 : decode cX8_build 112 = .ok (.iaload, 1) := by decide +kernel
theorem dX8_build_113 : decode cX8_build 113 = .ok (.ifCond .ne 11, 3) := by decide +kernel
theorem dX8_build_116 : decode cX8_build 116 = .ok (.aload_n 0, 1) := by decide +kernel
theorem dX8_build_117 : decode cX8_build 117 = .ok (.iload_n 2, 1) := by decide +kernel
theorem dX8_build_118 : decode cX8_build 118 = .ok (.invokevirtual 126, 3) := by decide +kernel
theorem dX8_build_121 : decode cX8_build 121 = .ok (.goto 26, 3) := by decide +kernel
theorem dX8_build_124 : decode cX8_build 124 = .ok (.aload_n 0, 1) := by decide +kernel
theorem dX8_build_125 : decode cX8_build 125 = .ok (.getfield 20, 3) := by decide +kernel
theorem dX8_build_128 : decode cX8_build 128 = .ok (.iload_n 2, 1) := by decide +kernel
theorem dX8_build_129 : decode cX8_build 129 = .ok (.iaload, 1) := by decide +kernel
theorem dX8_build_130 : decode cX8_build 130 = .ok (.iconst 1, 1) := by decide +kernel
theorem dX8_build_131 : decode cX8_build 131 = .ok (.if_icmp .ne 11, 3) := by decide +kernel
theorem dX8_build_134 : decode cX8_build 134 = .ok (.aload_n 0, 1) := by decide +kernel
theorem dX8_build_135 : decode cX8_build 135 = .ok (.iload_n 2, 1) := by decide +kernel
theorem dX8_build_136 : decode cX8_build 136 = .ok (.invokevirtual 129, 3) := by decide +kernel
theorem dX8_build_139 : decode cX8_build 139 = .ok (.goto 8, 3) := by decide +kernel
theorem dX8_build_142 : decode cX8_build 142 = .ok (.aload_n 0, 1) := by decide +kernel
theorem dX8_build_143 : decode cX8_build 143 = .ok (.iload_n 2, 1) := by decide +kernel
theorem dX8_build_144 : decode cX8_build 144 = .ok (.invokevirtual 132, 3) := by decide +kernel
theorem dX8_build_147 : decode cX8_build 147 = .ok (.iastore, 1) := by decide +kernel
theorem dX8_build_148 : decode cX8_build 148 = .ok (.iinc 2 1, 3) := by decide +kernel
theorem dX8_build_151 : decode cX8_build 151 = .ok (.goto (-54), 3) := by decide +kernel
theorem dX8_build_154 : decode cX8_build 154 = .ok (.aload_n 0, 1) := by decide +kernel
theorem dX8_build_155 : decode cX8_build 155 = .ok (.getfield 123, 3) := by decide +kernel
theorem dX8_build_158 : decode cX8_build 158 = .ok (.iload_n 1, 1) := by decide +kernel
theorem dX8_build_159 : decode cX8_build 159 = .ok (.iaload, 1) := by decide +kernel
theorem dX8_build_160 : decode cX8_build 160 = .ok (.ireturn, 1) := by decide +kernel
theorem dX8_ports_0 : decode cX8_ports 0 = .ok (.iload_n 0, 1) := by decide +kernel
theorem dX8_ports_1 : decode cX8_ports 1 = .ok (.iconst 3, 1) := by decide +kernel
theorem dX8_ports_2 : decode cX8_ports 2 = .ok (.if_icmp .ge 7, 3) := by decide +kernel
theorem dX8_ports_5 : decode cX8_ports 5 = .ok (.iconst 3, 1) := by decide +kernel
theorem dX8_ports_6 : decode cX8_ports 6 = .ok (.goto 13, 3) := by decide +kernel
theorem dX8_ports_9 : decode cX8_ports 9 = .ok (.iload_n 0, 1) := by decide +kernel
theorem dX8_ports_10 : decode cX8_ports 10 = .ok (.iconst 5, 1) := by decide +kernel
theorem dX8_ports_11 : decode cX8_ports 11 = .ok (.if_icmp .ge 7, 3) := by decide +kernel
theorem dX8_ports_14 : decode cX8_ports 14 = .ok (.iconst 2, 1) := by decide +kernel
theorem dX8_ports_15 : decode cX8_ports 15 = .ok (.goto 4, 3) := by decide +kernel
theorem dX8_ports_18 : decode cX8_ports 18 = .ok (.iconst 1, 1) := by decide +kernel
theorem dX8_ports_19 : decode cX8_ports 19 = .ok (.ireturn, 1) := by decide +kernel
set_option maxRecDepth 20000 in
theorem ggX8_goes_X8_ports : GoodIn wsX8_goes wsX8_ports := goodIn_r _ [7] (by decide +kernel) (by decide +kernel)
set_option maxRecDepth 20000 in
theorem gX8_goes_X8_ports : GoodIn wsX8_goes (va_wsS RX8 219 yX8_ports wsX8_ports) := goodIn_app (goodIn_of _ (by decide +kernel)) ggX8_goes_X8_ports
set_option maxRecDepth 20000 in
theorem ggX8_goes_X8_free : GoodIn wsX8_goes wsX8_free := goodIn_r _ [11, 1, 12, 13, 14, 30, 31, 32, 33, 34, 35, 36, 37, 38, 39, 40, 41, 42, 43, 44, 45, 46, 47, 48, 49, 50, 51, 52, 53, 54, 55, 56, 57, 58, 59, 60, 61, 62, 63, 64, 65, 66, 67, 68, 69, 70, 71, 72, 73, 74, 75, 76, 77, 78, 79, 80, 81, 82, 83, 84, 85, 86, 87] (by decide +kernel) (by decide +kernel)
set_option maxRecDepth 20000 in
theorem gX8_goes_X8_free : GoodIn wsX8_goes (wsV RX8 222 RX8 yX8_free wsX8_free) := goodIn_app (goodIn_of _ (by decide +kernel)) ggX8_goes_X8_free
set_option maxRecDepth 20000 in
theorem ggX8_goes_X8_node : GoodIn wsX8_goes wsX8_node := goodIn_r _ [18, 13, 12, 1, 19, 14, 30, 31, 32, 33, 34, 35, 36, 37, 38, 39, 40, 41, 42, 43, 44, 45, 46, 47, 48, 49, 50, 51, 52, 53, 54, 55, 56, 57, 58, 59, 60, 61, 62, 63, 64, 65, 66, 67, 68, 69, 70, 71, 72, 73, 74, 75, 76, 77, 78, 79, 80, 81, 82, 83, 84, 85, 86, 87] (by decide +kernel) (by decide +kernel)
set_option maxRecDepth 20000 in
theorem gX8_goes_X8_node : GoodIn wsX8_goes (wsV RX8 135 RX8 yX8_node wsX8_node) := goodIn_app (goodIn_of _ (by decide +kernel)) ggX8_goes_X8_node
set_option maxRecDepth 20000 in
theorem ggX8_goes_X8_wire : GoodIn wsX8_goes wsX8_wire := goodIn_r _ [23, 2, 24, 25, 26, 6, 27, 1, 28, 29, 30, 31, 32, 33, 34, 35, 36, 37, 38, 39, 40, 41, 42, 43, 44, 45, 46, 47, 48, 49, 50, 51, 52, 53, 54, 55, 56, 57, 58, 59, 60, 61, 62, 63, 64, 65, 66, 67, 68, 69, 70, 71, 72, 73, 74, 75, 76, 77, 78, 79, 80, 81, 82, 83, 84, 85, 86, 87] (by decide +kernel) (by decide +kernel)
set_option maxRecDepth 20000 in
theorem gX8_goes_X8_wire : GoodIn wsX8_goes (wsV RX8 141 RX8 yX8_wire wsX8_wire) := goodIn_app (goodIn_of _ (by decide +kernel)) ggX8_goes_X8_wire
theorem dX8_goes_0 : decode cX8_goes 0 = .ok (.aload_n 0, 1) := by decide +kernel
theorem dX8_goes_1 : decode cX8_goes 1 = .ok (.getfield 98, 3) := by decide +kernel
theorem dX8_goes_4 : decode cX8_goes 4 = .ok (.iload_n 1, 1) := by decide +kernel
theorem dX8_goes_5 : decode cX8_goes 5 = .ok (.iaload, 1) := by decide +kernel
theorem dX8_goes_6 : decode cX8_goes 6 = .ok (.invokestatic 219, 3) := by decide +kernel
theorem dX8_goes_9 : decode cX8_goes 9 = .ok (.istore_n 3, 1) := by decide +kernel
theorem dX8_goes_10 : decode cX8_goes 10 = .ok (.iconst (-1), 1) := by decide +kernel
theorem dX8_goes_11 : decode cX8_goes 11 = .ok (.istore 4, 2) := by decide +kernel
theorem dX8_goes_13 : decode cX8_goes 13 = .ok (.iconst (-1), 1) := by decide +kernel
theorem dX8_goes_14 : decode cX8_goes 14 = .ok (.istore 5, 2) := by decide +kernel
theorem dX8_goes_16 : decode cX8_goes 16 = .ok (.iconst 0, 1) := by decide +kernel
theorem dX8_goes_17 : decode cX8_goes 17 = .ok (.istore 6, 2) := by decide +kernel
theorem dX8_goes_19 : decode cX8_goes 19 = .ok (.iload 6, 2) := by decide +kernel
theorem dX8_goes_21 : decode cX8_goes 21 = .ok (.iload_n 3, 1) := by decide +kernel
theorem dX8_goes_22 : decode cX8_goes 22 = .ok (.if_icmp .ge 81, 3) := by decide +kernel
theorem dX8_goes_25 : decode cX8_goes 25 = .ok (.iload_n 2, 1) := by decide +kernel
theorem dX8_goes_26 : decode cX8_goes 26 = .ok (.iload 6, 2) := by decide +kernel
theorem dX8_goes_28 : decode cX8_goes 28 = .ok (.ishr, 1) := by decide +kernel
theorem dX8_goes_29 : decode cX8_goes 29 = .ok (.iconst 1, 1) := by decide +kernel
theorem dX8_goes_30 : decode cX8_goes 30 = .ok (.iand, 1) := by decide +kernel
theorem dX8_goes_31 : decode cX8_goes 31 = .ok (.iconst 1, 1) := by decide +kernel
theorem dX8_goes_32 : decode cX8_goes 32 = .ok (.if_icmp .eq 20, 3) := by decide +kernel
theorem dX8_goes_35 : decode cX8_goes 35 = .ok (.aload_n 0, 1) := by decide +kernel
theorem dX8_goes_36 : decode cX8_goes 36 = .ok (.getfield 113, 3) := by decide +kernel
theorem dX8_goes_39 : decode cX8_goes 39 = .ok (.iconst 3, 1) := by decide +kernel
theorem dX8_goes_40 : decode cX8_goes 40 = .ok (.iload_n 1, 1) := by decide +kernel
theorem dX8_goes_41 : decode cX8_goes 41 = .ok (.imul, 1) := by decide +kernel
theorem dX8_goes_42 : decode cX8_goes 42 = .ok (.iload 6, 2) := by decide +kernel
theorem dX8_goes_44 : decode cX8_goes 44 = .ok (.iadd, 1) := by decide +kernel
theorem dX8_goes_45 : decode cX8_goes 45 = .ok (.iaload, 1) := by decide +kernel
theorem dX8_goes_46 : decode cX8_goes 46 = .ok (.iconst 3, 1) := by decide +kernel
theorem dX8_goes_47 : decode cX8_goes 47 = .ok (.idiv, 1) := by decide +kernel
theorem dX8_goes_48 : decode cX8_goes 48 = .ok (.iload_n 1, 1) := by decide +kernel
theorem dX8_goes_49 : decode cX8_goes 49 = .ok (.if_icmp .ne 7, 3) := by decide +kernel
theorem dX8_goes_52 : decode cX8_goes 52 = .ok (.iconst (-1), 1) := by decide +kernel
theorem dX8_goes_53 : decode cX8_goes 53 = .ok (.goto 14, 3) := by decide +kernel
theorem dX8_goes_56 : decode cX8_goes 56 = .ok (.aload_n 0, 1) := by decide +kernel
theorem dX8_goes_57 : decode cX8_goes 57 = .ok (.getfield 113, 3) := by decide +kernel
theorem dX8_goes_60 : decode cX8_goes 60 = .ok (.iconst 3, 1) := by decide +kernel
theorem dX8_goes_61 : decode cX8_goes 61 = .ok (.iload_n 1, 1) := by decide +kernel
theorem dX8_goes_62 : decode cX8_goes 62 = .ok (.imul, 1) := by decide +kernel
theorem dX8_goes_63 : decode cX8_goes 63 = .ok (.iload 6, 2) := by decide +kernel
theorem dX8_goes_65 : decode cX8_goes 65 = .ok (.iadd, 1) := by decide +kernel
theorem dX8_goes_66 : decode cX8_goes 66 = .ok (.iaload, 1) := by decide +kernel
theorem dX8_goes_67 : decode cX8_goes 67 = .ok (.istore 7, 2) := by decide +kernel
theorem dX8_goes_69 : decode cX8_goes 69 = .ok (.iload 7, 2) := by decide +kernel
theorem dX8_goes_71 : decode cX8_goes 71 = .ok (.ifCond .lt 8, 3) := by decide +kernel
theorem dX8_goes_74 : decode cX8_goes 74 = .ok (.iload 4, 2) := by decide +kernel
theorem dX8_goes_76 : decode cX8_goes 76 = .ok (.goto 5, 3) := by decide +kernel
theorem dX8_goes_79 : decode cX8_goes 79 = .ok (.iload 5, 2) := by decide +kernel
theorem dX8_goes_81 : decode cX8_goes 81 = .ok (.istore 5, 2) := by decide +kernel
theorem dX8_goes_83 : decode cX8_goes 83 = .ok (.iload 7, 2) := by decide +kernel
theorem dX8_goes_85 : decode cX8_goes 85 = .ok (.ifCond .lt 8, 3) := by decide +kernel
theorem dX8_goes_88 : decode cX8_goes 88 = .ok (.iload 7, 2) := by decide +kernel
theorem dX8_goes_90 : decode cX8_goes 90 = .ok (.goto 5, 3) := by decide +kernel
theorem dX8_goes_93 : decode cX8_goes 93 = .ok (.iload 4, 2) := by decide +kernel
theorem dX8_goes_95 : decode cX8_goes 95 = .ok (.istore 4, 2) := by decide +kernel
theorem dX8_goes_97 : decode cX8_goes 97 = .ok (.iinc 6 1, 3) := by decide +kernel
theorem dX8_goes_100 : decode cX8_goes 100 = .ok (.goto (-81), 3) := by decide +kernel
theorem dX8_goes_103 : decode cX8_goes 103 = .ok (.aload_n 0, 1) := by decide +kernel
theorem dX8_goes_104 : decode cX8_goes 104 = .ok (.iload_n 1, 1) := by decide +kernel
theorem dX8_goes_105 : decode cX8_goes 105 = .ok (.invokevirtual 222, 3) := by decide +kernel
theorem dX8_goes_108 : decode cX8_goes 108 = .ok (.aload_n 0, 1) := by decide +kernel
theorem dX8_goes_109 : decode cX8_goes 109 = .ok (.dup, 1) := by decide +kernel
theorem dX8_goes_110 : decode cX8_goes 110 = .ok (.getfield 153, 3) := by decide +kernel
theorem dX8_goes_113 : decode cX8_goes 113 = .ok (.iconst 1, 1) := by decide +kernel
theorem dX8_goes_114 : decode cX8_goes 114 = .ok (.iadd, 1) := by decide +kernel
theorem dX8_goes_115 : decode cX8_goes 115 = .ok (.putfield 153, 3) := by decide +kernel
theorem dX8_goes_118 : decode cX8_goes 118 = .ok (.iload 4, 2) := by decide +kernel
theorem dX8_goes_120 : decode cX8_goes 120 = .ok (.ifCond .lt 17, 3) := by decide +kernel
theorem dX8_goes_123 : decode cX8_goes 123 = .ok (.aload_n 0, 1) := by decide +kernel
theorem dX8_goes_124 : decode cX8_goes 124 = .ok (.iconst 3, 1) := by decide +kernel
theorem dX8_goes_125 : decode cX8_goes 125 = .ok (.aload_n 0, 1) := by decide +kernel
theorem dX8_goes_126 : decode cX8_goes 126 = .ok (.iconst 5, 1) := by decide +kernel
theorem dX8_goes_127 : decode cX8_goes 127 = .ok (.iconst 0, 1) := by decide +kernel
theorem dX8_goes_128 : decode cX8_goes 128 = .ok (.invokevirtual 135, 3) := by decide +kernel
theorem dX8_goes_131 : decode cX8_goes 131 = .ok (.imul, 1) := by decide +kernel
theorem dX8_goes_132 : decode cX8_goes 132 = .ok (.iload 4, 2) := by decide +kernel
theorem dX8_goes_134 : decode cX8_goes 134 = .ok (.invokevirtual 141, 3) := by decide +kernel
theorem dX8_goes_137 : decode cX8_goes 137 = .ok (.iload 5, 2) := by decide +kernel
theorem dX8_goes_139 : decode cX8_goes 139 = .ok (.ifCond .lt 17, 3) := by decide +kernel
theorem dX8_goes_142 : decode cX8_goes 142 = .ok (.aload_n 0, 1) := by decide +kernel
theorem dX8_goes_143 : decode cX8_goes 143 = .ok (.iconst 3, 1) := by decide +kernel
theorem dX8_goes_144 : decode cX8_goes 144 = .ok (.aload_n 0, 1) := by decide +kernel
theorem dX8_goes_145 : decode cX8_goes 145 = .ok (.iconst 5, 1) := by decide +kernel
theorem dX8_goes_146 : decode cX8_goes 146 = .ok (.iconst 0, 1) := by decide +kernel
theorem dX8_goes_147 : decode cX8_goes 147 = .ok (.invokevirtual 135, 3) := by decide +kernel
theorem dX8_goes_150 : decode cX8_goes 150 = .ok (.imul, 1) := by decide +kernel
theorem dX8_goes_151 : decode cX8_goes 151 = .ok (.iload 5, 2) := by decide +kernel
theorem dX8_goes_153 : decode cX8_goes 153 = .ok (.invokevirtual 141, 3) := by decide +kernel
theorem dX8_goes_156 : decode cX8_goes 156 = .ok (.return_, 1) := by decide +kernel
set_option maxRecDepth 20000 in
theorem ggX8_eraseBy_X8_free : GoodIn wsX8_eraseBy wsX8_free := goodIn_r _ [7, 2, 8, 9, 10, 34, 35, 36, 37, 38, 39, 40, 41, 42, 43, 44, 45, 46, 47, 48, 49, 50, 51, 52, 53, 54, 55, 56, 57, 58, 59, 60, 61, 62, 63, 64, 65, 66, 67, 68, 69, 70, 71, 72, 73, 74, 75, 76, 77, 78, 79, 80, 81, 82, 83, 84, 85, 86, 87, 88, 89, 90, 91] (by decide +kernel) (by decide +kernel)
set_option maxRecDepth 20000 in
theorem gX8_eraseBy_X8_free : GoodIn wsX8_eraseBy (wsV RX8 222 RX8 yX8_free wsX8_free) := goodIn_app (goodIn_of _ (by decide +kernel)) ggX8_eraseBy_X8_free
set_option maxRecDepth 20000 in
theorem ggX8_eraseBy_X8_goes : GoodIn wsX8_eraseBy wsX8_goes := goodIn_r _ [14, 2, 1, 15, 16, 17, 6, 18, 3, 4, 5, 7, 8, 9, 10, 19, 20, 21, 22, 23, 24, 25, 26, 27, 28, 29, 30, 31, 32, 33, 34, 35, 36, 37, 38, 39, 40, 41, 42, 43, 44, 45, 46, 47, 48, 49, 50, 51, 52, 53, 54, 55, 56, 57, 58, 59, 60, 61, 62, 63, 64, 65, 66, 67, 68, 69, 70, 71, 72, 73, 74, 75, 76, 77, 78, 79, 80, 81, 82, 83, 84, 85, 86, 87, 88, 89, 90, 91] (by decide +kernel) (by decide +kernel)
set_option maxRecDepth 20000 in
theorem gX8_eraseBy_X8_goes : GoodIn wsX8_eraseBy (wsV RX8 225 RX8 yX8_goes wsX8_goes) := goodIn_app (goodIn_of _ (by decide +kernel)) ggX8_eraseBy_X8_goes
theorem dX8_eraseBy_0 : decode cX8_eraseBy 0 = .ok (.aload_n 0, 1) := by decide +kernel
theorem dX8_eraseBy_1 : decode cX8_eraseBy 1 = .ok (.getfield 113, 3) := by decide +kernel
theorem dX8_eraseBy_4 : decode cX8_eraseBy 4 = .ok (.iconst 3, 1) := by decide +kernel
theorem dX8_eraseBy_5 : decode cX8_eraseBy 5 = .ok (.iload_n 1, 1) := by decide +kernel
theorem dX8_eraseBy_6 : decode cX8_eraseBy 6 = .ok (.imul, 1) := by decide +kernel
theorem dX8_eraseBy_7 : decode cX8_eraseBy 7 = .ok (.iaload, 1) := by decide +kernel
theorem dX8_eraseBy_8 : decode cX8_eraseBy 8 = .ok (.istore_n 2, 1) := by decide +kernel
theorem dX8_eraseBy_9 : decode cX8_eraseBy 9 = .ok (.iload_n 2, 1) := by decide +kernel
theorem dX8_eraseBy_10 : decode cX8_eraseBy 10 = .ok (.iconst 3, 1) := by decide +kernel
theorem dX8_eraseBy_11 : decode cX8_eraseBy 11 = .ok (.idiv, 1) := by decide +kernel
theorem dX8_eraseBy_12 : decode cX8_eraseBy 12 = .ok (.istore_n 3, 1) := by decide +kernel
theorem dX8_eraseBy_13 : decode cX8_eraseBy 13 = .ok (.iload_n 2, 1) := by decide +kernel
theorem dX8_eraseBy_14 : decode cX8_eraseBy 14 = .ok (.iconst 3, 1) := by decide +kernel
theorem dX8_eraseBy_15 : decode cX8_eraseBy 15 = .ok (.irem, 1) := by decide +kernel
theorem dX8_eraseBy_16 : decode cX8_eraseBy 16 = .ok (.istore 4, 2) := by decide +kernel
theorem dX8_eraseBy_18 : decode cX8_eraseBy 18 = .ok (.aload_n 0, 1) := by decide +kernel
theorem dX8_eraseBy_19 : decode cX8_eraseBy 19 = .ok (.getfield 98, 3) := by decide +kernel
theorem dX8_eraseBy_22 : decode cX8_eraseBy 22 = .ok (.iload_n 3, 1) := by decide +kernel
theorem dX8_eraseBy_23 : decode cX8_eraseBy 23 = .ok (.iaload, 1) := by decide +kernel
theorem dX8_eraseBy_24 : decode cX8_eraseBy 24 = .ok (.istore 5, 2) := by decide +kernel
theorem dX8_eraseBy_26 : decode cX8_eraseBy 26 = .ok (.iload 5, 2) := by decide +kernel
theorem dX8_eraseBy_28 : decode cX8_eraseBy 28 = .ok (.iconst 5, 1) := by decide +kernel
theorem dX8_eraseBy_29 : decode cX8_eraseBy 29 = .ok (.if_icmp .ne 16, 3) := by decide +kernel
theorem dX8_eraseBy_32 : decode cX8_eraseBy 32 = .ok (.aload_n 0, 1) := by decide +kernel
theorem dX8_eraseBy_33 : decode cX8_eraseBy 33 = .ok (.iload_n 1, 1) := by decide +kernel
theorem dX8_eraseBy_34 : decode cX8_eraseBy 34 = .ok (.invokevirtual 222, 3) := by decide +kernel
theorem dX8_eraseBy_37 : decode cX8_eraseBy 37 = .ok (.aload_n 0, 1) := by decide +kernel
theorem dX8_eraseBy_38 : decode cX8_eraseBy 38 = .ok (.iload_n 3, 1) := by decide +kernel
theorem dX8_eraseBy_39 : decode cX8_eraseBy 39 = .ok (.invokevirtual 222, 3) := by decide +kernel
theorem dX8_eraseBy_42 : decode cX8_eraseBy 42 = .ok (.goto 117, 3) := by decide +kernel
theorem dX8_eraseBy_45 : decode cX8_eraseBy 45 = .ok (.iload 4, 2) := by decide +kernel
theorem dX8_eraseBy_47 : decode cX8_eraseBy 47 = .ok (.ifCond .ne 10, 3) := by decide +kernel
theorem dX8_eraseBy_50 : decode cX8_eraseBy 50 = .ok (.iload 5, 2) := by decide +kernel
theorem dX8_eraseBy_52 : decode cX8_eraseBy 52 = .ok (.bipush 6, 2) := by decide +kernel
theorem dX8_eraseBy_54 : decode cX8_eraseBy 54 = .ok (.if_icmp .ne 27, 3) := by decide +kernel
theorem dX8_eraseBy_57 : decode cX8_eraseBy 57 = .ok (.iload 4, 2) := by decide +kernel
theorem dX8_eraseBy_59 : decode cX8_eraseBy 59 = .ok (.iconst 1, 1) := by decide +kernel
theorem dX8_eraseBy_60 : decode cX8_eraseBy 60 = .ok (.if_icmp .ne 38, 3) := by decide +kernel
theorem dX8_eraseBy_63 : decode cX8_eraseBy 63 = .ok (.iload 5, 2) := by decide +kernel
theorem dX8_eraseBy_65 : decode cX8_eraseBy 65 = .ok (.iconst 3, 1) := by decide +kernel
theorem dX8_eraseBy_66 : decode cX8_eraseBy 66 = .ok (.if_icmp .eq 15, 3) := by decide +kernel
theorem dX8_eraseBy_69 : decode cX8_eraseBy 69 = .ok (.iload 5, 2) := by decide +kernel
theorem dX8_eraseBy_71 : decode cX8_eraseBy 71 = .ok (.iconst 4, 1) := by decide +kernel
theorem dX8_eraseBy_72 : decode cX8_eraseBy 72 = .ok (.if_icmp .eq 9, 3) := by decide +kernel
theorem dX8_eraseBy_75 : decode cX8_eraseBy 75 = .ok (.iload 5, 2) := by decide +kernel
theorem dX8_eraseBy_77 : decode cX8_eraseBy 77 = .ok (.iconst 1, 1) := by decide +kernel
theorem dX8_eraseBy_78 : decode cX8_eraseBy 78 = .ok (.if_icmp .ne 20, 3) := by decide +kernel
theorem dX8_eraseBy_81 : decode cX8_eraseBy 81 = .ok (.aload_n 0, 1) := by decide +kernel
theorem dX8_eraseBy_82 : decode cX8_eraseBy 82 = .ok (.iload_n 1, 1) := by decide +kernel
theorem dX8_eraseBy_83 : decode cX8_eraseBy 83 = .ok (.invokevirtual 222, 3) := by decide +kernel
theorem dX8_eraseBy_86 : decode cX8_eraseBy 86 = .ok (.aload_n 0, 1) := by decide +kernel
theorem dX8_eraseBy_87 : decode cX8_eraseBy 87 = .ok (.iload_n 3, 1) := by decide +kernel
theorem dX8_eraseBy_88 : decode cX8_eraseBy 88 = .ok (.iconst 1, 1) := by decide +kernel
theorem dX8_eraseBy_89 : decode cX8_eraseBy 89 = .ok (.iload 4, 2) := by decide +kernel
theorem dX8_eraseBy_91 : decode cX8_eraseBy 91 = .ok (.ishl, 1) := by decide +kernel
theorem dX8_eraseBy_92 : decode cX8_eraseBy 92 = .ok (.invokevirtual 225, 3) := by decide +kernel
theorem dX8_eraseBy_95 : decode cX8_eraseBy 95 = .ok (.goto 64, 3) := by decide +kernel
theorem dX8_eraseBy_98 : decode cX8_eraseBy 98 = .ok (.iload 5, 2) := by decide +kernel
theorem dX8_eraseBy_100 : decode cX8_eraseBy 100 = .ok (.iconst 2, 1) := by decide +kernel
theorem dX8_eraseBy_101 : decode cX8_eraseBy 101 = .ok (.if_icmp .ne 58, 3) := by decide +kernel
theorem dX8_eraseBy_104 : decode cX8_eraseBy 104 = .ok (.aload_n 0, 1) := by decide +kernel
theorem dX8_eraseBy_105 : decode cX8_eraseBy 105 = .ok (.getfield 98, 3) := by decide +kernel
theorem dX8_eraseBy_108 : decode cX8_eraseBy 108 = .ok (.aload_n 0, 1) := by decide +kernel
theorem dX8_eraseBy_109 : decode cX8_eraseBy 109 = .ok (.getfield 113, 3) := by decide +kernel
theorem dX8_eraseBy_112 : decode cX8_eraseBy 112 = .ok (.iconst 3, 1) := by decide +kernel
theorem dX8_eraseBy_113 : decode cX8_eraseBy 113 = .ok (.iload_n 3, 1) := by decide +kernel
theorem dX8_eraseBy_114 : decode cX8_eraseBy 114 = .ok (.imul, 1) := by decide +kernel
theorem dX8_eraseBy_115 : decode cX8_eraseBy 115 = .ok (.iconst 3, 1) := by decide +kernel
theorem dX8_eraseBy_116 : decode cX8_eraseBy 116 = .ok (.iadd, 1) := by decide +kernel
theorem dX8_eraseBy_117 : decode cX8_eraseBy 117 = .ok (.iload 4, 2) := by decide +kernel
theorem dX8_eraseBy_119 : decode cX8_eraseBy 119 = .ok (.isub, 1) := by decide +kernel
theorem dX8_eraseBy_120 : decode cX8_eraseBy 120 = .ok (.iaload, 1) := by decide +kernel
theorem dX8_eraseBy_121 : decode cX8_eraseBy 121 = .ok (.iconst 3, 1) := by decide +kernel
theorem dX8_eraseBy_122 : decode cX8_eraseBy 122 = .ok (.idiv, 1) := by decide +kernel
theorem dX8_eraseBy_123 : decode cX8_eraseBy 123 = .ok (.iaload, 1) := by decide +kernel
theorem dX8_eraseBy_124 : decode cX8_eraseBy 124 = .ok (.iconst 5, 1) := by decide +kernel
theorem dX8_eraseBy_125 : decode cX8_eraseBy 125 = .ok (.if_icmp .ne 34, 3) := by decide +kernel
theorem dX8_eraseBy_128 : decode cX8_eraseBy 128 = .ok (.aload_n 0, 1) := by decide +kernel
theorem dX8_eraseBy_129 : decode cX8_eraseBy 129 = .ok (.iload_n 1, 1) := by decide +kernel
theorem dX8_eraseBy_130 : decode cX8_eraseBy 130 = .ok (.invokevirtual 222, 3) := by decide +kernel
theorem dX8_eraseBy_133 : decode cX8_eraseBy 133 = .ok (.aload_n 0, 1) := by decide +kernel
theorem dX8_eraseBy_134 : decode cX8_eraseBy 134 = .ok (.aload_n 0, 1) := by decide +kernel
theorem dX8_eraseBy_135 : decode cX8_eraseBy 135 = .ok (.getfield 113, 3) := by decide +kernel
theorem dX8_eraseBy_138 : decode cX8_eraseBy 138 = .ok (.iconst 3, 1) := by decide +kernel
theorem dX8_eraseBy_139 : decode cX8_eraseBy 139 = .ok (.iload_n 3, 1) := by decide +kernel
theorem dX8_eraseBy_140 : decode cX8_eraseBy 140 = .ok (.imul, 1) := by decide +kernel
theorem dX8_eraseBy_141 : decode cX8_eraseBy 141 = .ok (.iconst 3, 1) := by decide +kernel
theorem dX8_eraseBy_142 : decode cX8_eraseBy 142 = .ok (.iadd, 1) := by decide +kernel
theorem dX8_eraseBy_143 : decode cX8_eraseBy 143 = .ok (.iload 4, 2) := by decide +kernel
theorem dX8_eraseBy_145 : decode cX8_eraseBy 145 = .ok (.isub, 1) := by decide +kernel
theorem dX8_eraseBy_146 : decode cX8_eraseBy 146 = .ok (.iaload, 1) := by decide +kernel
theorem dX8_eraseBy_147 : decode cX8_eraseBy 147 = .ok (.iconst 3, 1) := by decide +kernel
theorem dX8_eraseBy_148 : decode cX8_eraseBy 148 = .ok (.idiv, 1) := by decide +kernel
theorem dX8_eraseBy_149 : decode cX8_eraseBy 149 = .ok (.invokevirtual 222, 3) := by decide +kernel
theorem dX8_eraseBy_152 : decode cX8_eraseBy 152 = .ok (.aload_n 0, 1) := by decide +kernel
theorem dX8_eraseBy_153 : decode cX8_eraseBy 153 = .ok (.iload_n 3, 1) := by decide +kernel
theorem dX8_eraseBy_154 : decode cX8_eraseBy 154 = .ok (.bipush 6, 2) := by decide +kernel
theorem dX8_eraseBy_156 : decode cX8_eraseBy 156 = .ok (.invokevirtual 225, 3) := by decide +kernel
theorem dX8_eraseBy_159 : decode cX8_eraseBy 159 = .ok (.return_, 1) := by decide +kernel
set_option maxRecDepth 20000 in
theorem ggX8_erase_X8_eraseBy : GoodIn wsX8_erase wsX8_eraseBy := goodIn_r _ [8, 9, 3, 10, 11, 12, 7, 13, 14, 15, 16, 17, 18, 19, 20, 21, 22, 23, 24, 25, 26, 27, 28, 29, 30, 31, 32, 33, 34, 35, 36, 37, 2, 1, 38, 39, 40, 41, 42, 43, 44, 45, 46, 47, 48, 49, 50, 51, 52, 53, 54, 55, 56, 57, 58, 59, 60, 61, 62, 63, 64, 65, 66, 67, 68, 69, 70, 71, 72, 73, 74, 75, 76, 77, 78, 79, 80, 81, 82, 83, 84, 85, 86, 87, 88, 89, 90, 91, 92, 93, 94, 95] (by decide +kernel) (by decide +kernel)
set_option maxRecDepth 20000 in
theorem gX8_erase_X8_eraseBy : GoodIn wsX8_erase (wsV RX8 228 RX8 yX8_eraseBy wsX8_eraseBy) := goodIn_app (goodIn_of _ (by decide +kernel)) ggX8_erase_X8_eraseBy
theorem dX8_erase_0 : decode cX8_erase 0 = .ok (.aload_n 0, 1) := by decide +kernel
theorem dX8_erase_1 : decode cX8_erase 1 = .ok (.getfield 110, 3) := by decide +kernel
theorem dX8_erase_4 : decode cX8_erase 4 = .ok (.ifCond .le 41, 3) := by decide +kernel
theorem dX8_erase_7 : decode cX8_erase 7 = .ok (.aload_n 0, 1) := by decide +kernel
theorem dX8_erase_8 : decode cX8_erase 8 = .ok (.dup, 1) := by decide +kernel
theorem dX8_erase_9 : decode cX8_erase 9 = .ok (.getfield 110, 3) := by decide +kernel
theorem dX8_erase_12 : decode cX8_erase 12 = .ok (.iconst 1, 1) := by decide +kernel
theorem dX8_erase_13 : decode cX8_erase 13 = .ok (.isub, 1) := by decide +kernel
theorem dX8_erase_14 : decode cX8_erase 14 = .ok (.putfield 110, 3) := by decide +kernel
theorem dX8_erase_17 : decode cX8_erase 17 = .ok (.aload_n 0, 1) := by decide +kernel
theorem dX8_erase_18 : decode cX8_erase 18 = .ok (.getfield 107, 3) := by decide +kernel
theorem dX8_erase_21 : decode cX8_erase 21 = .ok (.aload_n 0, 1) := by decide +kernel
theorem dX8_erase_22 : decode cX8_erase 22 = .ok (.getfield 110, 3) := by decide +kernel
theorem dX8_erase_25 : decode cX8_erase 25 = .ok (.iaload, 1) := by decide +kernel
theorem dX8_erase_26 : decode cX8_erase 26 = .ok (.istore_n 1, 1) := by decide +kernel
theorem dX8_erase_27 : decode cX8_erase 27 = .ok (.aload_n 0, 1) := by decide +kernel
theorem dX8_erase_28 : decode cX8_erase 28 = .ok (.getfield 98, 3) := by decide +kernel
theorem dX8_erase_31 : decode cX8_erase 31 = .ok (.iload_n 1, 1) := by decide +kernel
theorem dX8_erase_32 : decode cX8_erase 32 = .ok (.iaload, 1) := by decide +kernel
theorem dX8_erase_33 : decode cX8_erase 33 = .ok (.iconst 5, 1) := by decide +kernel
theorem dX8_erase_34 : decode cX8_erase 34 = .ok (.if_icmp .ne 8, 3) := by decide +kernel
theorem dX8_erase_37 : decode cX8_erase 37 = .ok (.aload_n 0, 1) := by decide +kernel
theorem dX8_erase_38 : decode cX8_erase 38 = .ok (.iload_n 1, 1) := by decide +kernel
theorem dX8_erase_39 : decode cX8_erase 39 = .ok (.invokevirtual 228, 3) := by decide +kernel
theorem dX8_erase_42 : decode cX8_erase 42 = .ok (.goto (-42), 3) := by decide +kernel
theorem dX8_erase_45 : decode cX8_erase 45 = .ok (.return_, 1) := by decide +kernel
set_option maxRecDepth 20000 in
theorem ggX8_begin_X8_node : GoodIn wsX8_begin wsX8_node := goodIn_r _ [15, 1, 3, 2, 16, 4, 69, 70, 71, 72, 73, 74, 75, 76, 77, 78, 79, 80, 81, 82, 83, 84, 85, 86, 87, 88, 89, 90, 91, 92, 93, 94, 95, 96, 97, 98, 99, 100, 101, 102, 103, 104, 105, 106, 107, 108, 109, 110, 111, 112, 113, 114, 115, 116, 117, 118, 119, 120, 121, 122, 123, 124, 125, 126] (by decide +kernel) (by decide +kernel)
set_option maxRecDepth 20000 in
theorem gX8_begin_X8_node : GoodIn wsX8_begin (wsV RX8 135 RX8 yX8_node wsX8_node) := goodIn_app (goodIn_of _ (by decide +kernel)) ggX8_begin_X8_node
set_option maxRecDepth 20000 in
theorem ggX8_begin_X8_build : GoodIn wsX8_begin wsX8_build := goodIn_r _ [20, 21, 22, 23, 24, 25, 26, 27, 28, 14, 29, 30, 31, 11, 12, 13, 15, 1, 3, 2, 16, 4, 32, 33, 34, 35, 36, 37, 38, 39, 40, 41, 42, 43, 44, 45, 9, 46, 47, 48, 49, 69, 70, 71, 72, 73, 74, 75, 76, 77, 78, 79, 80, 81, 82, 83, 84, 85, 86, 87, 88, 89, 90, 91, 92, 93, 94, 95, 96, 97, 98, 99, 100, 101, 102, 103, 104, 105, 106, 107, 108, 109, 110, 111, 112, 113, 114, 115, 116, 117, 118, 119, 120, 121, 122, 123, 124, 125, 126] (by decide +kernel) (by decide +kernel)
set_option maxRecDepth 20000 in
theorem gX8_begin_X8_build : GoodIn wsX8_begin (wsV RX8 159 RX8 yX8_build wsX8_build) := goodIn_app (goodIn_of _ (by decide +kernel)) ggX8_begin_X8_build
set_option maxRecDepth 20000 in
theorem ggX8_begin_X8_wire : GoodIn wsX8_begin wsX8_wire := goodIn_r _ [39, 40, 41, 42, 43, 14, 44, 2, 45, 9, 69, 70, 71, 72, 73, 74, 75, 76, 77, 78, 79, 80, 81, 82, 83, 84, 85, 86, 87, 88, 89, 90, 91, 92, 93, 94, 95, 96, 97, 98, 99, 100, 101, 102, 103, 104, 105, 106, 107, 108, 109, 110, 111, 112, 113, 114, 115, 116, 117, 118, 119, 120, 121, 122, 123, 124, 125, 126] (by decide +kernel) (by decide +kernel)
set_option maxRecDepth 20000 in
theorem gX8_begin_X8_wire : GoodIn wsX8_begin (wsV RX8 141 RX8 yX8_wire wsX8_wire) := goodIn_app (goodIn_of _ (by decide +kernel)) ggX8_begin_X8_wire
set_option maxRecDepth 20000 in
theorem ggX8_begin_X8_erase : GoodIn wsX8_begin wsX8_erase := goodIn_r _ [53, 9, 45, 2, 54, 55, 56, 14, 57, 40, 58, 59, 60, 61, 3, 1, 4, 62, 63, 64, 65, 8, 66, 67, 68, 11, 12, 13, 15, 16, 36, 37, 38, 39, 41, 42, 43, 44, 69, 70, 71, 72, 73, 74, 75, 76, 77, 78, 79, 80, 81, 82, 83, 84, 85, 86, 87, 88, 89, 90, 91, 92, 93, 94, 95, 96, 97, 98, 99, 100, 101, 102, 103, 104, 105, 106, 107, 108, 109, 110, 111, 112, 113, 114, 115, 116, 117, 118, 119, 120, 121, 122, 123, 124, 125, 126] (by decide +kernel) (by decide +kernel)
set_option maxRecDepth 20000 in
theorem gX8_begin_X8_erase : GoodIn wsX8_begin (wsV RX8 162 RX8 yX8_erase wsX8_erase) := goodIn_app (goodIn_of _ (by decide +kernel)) ggX8_begin_X8_erase
theorem dX8_begin_0 : decode cX8_begin 0 = .ok (.aload_n 0, 1) := by decide +kernel
theorem dX8_begin_1 : decode cX8_begin 1 = .ok (.iconst 0, 1) := by decide +kernel
theorem dX8_begin_2 : decode cX8_begin 2 = .ok (.putfield 92, 3) := by decide +kernel
theorem dX8_begin_5 : decode cX8_begin 5 = .ok (.sipush 3009, 3) := by decide +kernel
theorem dX8_begin_8 : decode cX8_begin 8 = .ok (.istore_n 2, 1) := by decide +kernel
theorem dX8_begin_9 : decode cX8_begin 9 = .ok (.iload_n 2, 1) := by decide +kernel
theorem dX8_begin_10 : decode cX8_begin 10 = .ok (.ifCond .lt 37, 3) := by decide +kernel
theorem dX8_begin_13 : decode cX8_begin 13 = .ok (.aload_n 0, 1) := by decide +kernel
theorem dX8_begin_14 : decode cX8_begin 14 = .ok (.getfield 98, 3) := by decide +kernel
theorem dX8_begin_17 : decode cX8_begin 17 = .ok (.iload_n 2, 1) := by decide +kernel
theorem dX8_begin_18 : decode cX8_begin 18 = .ok (.bipush 7, 2) := by decide +kernel
theorem dX8_begin_20 : decode cX8_begin 20 = .ok (.iastore, 1) := by decide +kernel
theorem dX8_begin_21 : decode cX8_begin 21 = .ok (.aload_n 0, 1) := by decide +kernel
theorem dX8_begin_22 : decode cX8_begin 22 = .ok (.getfield 95, 3) := by decide +kernel
theorem dX8_begin_25 : decode cX8_begin 25 = .ok (.aload_n 0, 1) := by decide +kernel
theorem dX8_begin_26 : decode cX8_begin 26 = .ok (.getfield 92, 3) := by decide +kernel
theorem dX8_begin_29 : decode cX8_begin 29 = .ok (.iload_n 2, 1) := by decide +kernel
theorem dX8_begin_30 : decode cX8_begin 30 = .ok (.iastore, 1) := by decide +kernel
theorem dX8_begin_31 : decode cX8_begin 31 = .ok (.aload_n 0, 1) := by decide +kernel
theorem dX8_begin_32 : decode cX8_begin 32 = .ok (.dup, 1) := by decide +kernel
theorem dX8_begin_33 : decode cX8_begin 33 = .ok (.getfield 92, 3) := by decide +kernel
theorem dX8_begin_36 : decode cX8_begin 36 = .ok (.iconst 1, 1) := by decide +kernel
theorem dX8_begin_37 : decode cX8_begin 37 = .ok (.iadd, 1) := by decide +kernel
theorem dX8_begin_38 : decode cX8_begin 38 = .ok (.putfield 92, 3) := by decide +kernel
theorem dX8_begin_41 : decode cX8_begin 41 = .ok (.iinc 2 (-1), 3) := by decide +kernel
theorem dX8_begin_44 : decode cX8_begin 44 = .ok (.goto (-35), 3) := by decide +kernel
theorem dX8_begin_47 : decode cX8_begin 47 = .ok (.aload_n 0, 1) := by decide +kernel
theorem dX8_begin_48 : decode cX8_begin 48 = .ok (.iconst 0, 1) := by decide +kernel
theorem dX8_begin_49 : decode cX8_begin 49 = .ok (.putfield 104, 3) := by decide +kernel
theorem dX8_begin_52 : decode cX8_begin 52 = .ok (.aload_n 0, 1) := by decide +kernel
theorem dX8_begin_53 : decode cX8_begin 53 = .ok (.iconst 0, 1) := by decide +kernel
theorem dX8_begin_54 : decode cX8_begin 54 = .ok (.putfield 144, 3) := by decide +kernel
theorem dX8_begin_57 : decode cX8_begin 57 = .ok (.aload_n 0, 1) := by decide +kernel
theorem dX8_begin_58 : decode cX8_begin 58 = .ok (.iconst 0, 1) := by decide +kernel
theorem dX8_begin_59 : decode cX8_begin 59 = .ok (.putfield 147, 3) := by decide +kernel
theorem dX8_begin_62 : decode cX8_begin 62 = .ok (.aload_n 0, 1) := by decide +kernel
theorem dX8_begin_63 : decode cX8_begin 63 = .ok (.iconst 0, 1) := by decide +kernel
theorem dX8_begin_64 : decode cX8_begin 64 = .ok (.putfield 150, 3) := by decide +kernel
theorem dX8_begin_67 : decode cX8_begin 67 = .ok (.aload_n 0, 1) := by decide +kernel
theorem dX8_begin_68 : decode cX8_begin 68 = .ok (.iconst 0, 1) := by decide +kernel
theorem dX8_begin_69 : decode cX8_begin 69 = .ok (.putfield 153, 3) := by decide +kernel
theorem dX8_begin_72 : decode cX8_begin 72 = .ok (.aload_n 0, 1) := by decide +kernel
theorem dX8_begin_73 : decode cX8_begin 73 = .ok (.iconst 0, 1) := by decide +kernel
theorem dX8_begin_74 : decode cX8_begin 74 = .ok (.putfield 110, 3) := by decide +kernel
theorem dX8_begin_77 : decode cX8_begin 77 = .ok (.aload_n 0, 1) := by decide +kernel
theorem dX8_begin_78 : decode cX8_begin 78 = .ok (.iconst 0, 1) := by decide +kernel
theorem dX8_begin_79 : decode cX8_begin 79 = .ok (.putfield 156, 3) := by decide +kernel
theorem dX8_begin_82 : decode cX8_begin 82 = .ok (.aload_n 0, 1) := by decide +kernel
theorem dX8_begin_83 : decode cX8_begin 83 = .ok (.iconst 3, 1) := by decide +kernel
theorem dX8_begin_84 : decode cX8_begin 84 = .ok (.aload_n 0, 1) := by decide +kernel
theorem dX8_begin_85 : decode cX8_begin 85 = .ok (.bipush 6, 2) := by decide +kernel
theorem dX8_begin_87 : decode cX8_begin 87 = .ok (.iconst 0, 1) := by decide +kernel
theorem dX8_begin_88 : decode cX8_begin 88 = .ok (.invokevirtual 135, 3) := by decide +kernel
theorem dX8_begin_91 : decode cX8_begin 91 = .ok (.imul, 1) := by decide +kernel
theorem dX8_begin_92 : decode cX8_begin 92 = .ok (.aload_n 0, 1) := by decide +kernel
theorem dX8_begin_93 : decode cX8_begin 93 = .ok (.iload_n 1, 1) := by decide +kernel
theorem dX8_begin_94 : decode cX8_begin 94 = .ok (.invokevirtual 159, 3) := by decide +kernel
theorem dX8_begin_97 : decode cX8_begin 97 = .ok (.invokevirtual 141, 3) := by decide +kernel
theorem dX8_begin_100 : decode cX8_begin 100 = .ok (.aload_n 0, 1) := by decide +kernel
theorem dX8_begin_101 : decode cX8_begin 101 = .ok (.invokevirtual 162, 3) := by decide +kernel
theorem dX8_begin_104 : decode cX8_begin 104 = .ok (.return_, 1) := by decide +kernel
set_option maxRecDepth 20000 in
theorem ggX8_init_X8_tree : GoodIn wsX8_init wsX8_tree := goodIn_r _ [42, 7, 43, 8, 9, 103, 104, 105, 106, 107, 108, 109, 110, 111, 112, 113, 114, 115, 116, 117, 118, 119, 120, 121, 122, 123, 124, 125, 126, 127, 128, 129, 130, 131, 132, 133, 134, 135, 136, 137, 138, 139, 140, 141, 142, 143, 144, 145, 146, 147, 148, 149, 150, 151, 152, 153, 154, 155, 156, 157, 158, 159, 160] (by decide +kernel) (by decide +kernel)
set_option maxRecDepth 20000 in
theorem gX8_init_X8_tree : GoodIn wsX8_init (wsV RX8 76 RX8 yX8_tree wsX8_tree) := goodIn_app (goodIn_of _ (by decide +kernel)) ggX8_init_X8_tree
set_option maxRecDepth 20000 in
theorem ggX8_init_X8_begin : GoodIn wsX8_init wsX8_begin := goodIn_r _ [47, 48, 14, 17, 49, 50, 51, 52, 53, 54, 55, 56, 57, 58, 41, 59, 15, 60, 61, 62, 63, 20, 7, 8, 9, 21, 64, 65, 66, 67, 37, 19, 68, 69, 70, 71, 72, 73, 74, 75, 16, 76, 77, 78, 79, 18, 80, 81, 82, 83, 84, 85, 86, 87, 88, 89, 90, 91, 92, 93, 94, 95, 96, 97, 98, 99, 100, 101, 102, 103, 104, 105, 106, 107, 108, 109, 110, 111, 112, 113, 114, 115, 116, 117, 118, 119, 120, 121, 122, 123, 124, 125, 126, 127, 128, 129, 130, 131, 132, 133, 134, 135, 136, 137, 138, 139, 140, 141, 142, 143, 144, 145, 146, 147, 148, 149, 150, 151, 152, 153, 154, 155, 156, 157, 158, 159, 160] (by decide +kernel) (by decide +kernel)
set_option maxRecDepth 20000 in
theorem gX8_init_X8_begin : GoodIn wsX8_init (wsV RX8 213 RX8 yX8_begin wsX8_begin) := goodIn_app (goodIn_of _ (by decide +kernel)) ggX8_init_X8_begin
theorem dX8_init_0 : decode cX8_init 0 = .ok (.aload_n 0, 1) := by decide +kernel
theorem dX8_init_1 : decode cX8_init 1 = .ok (.invokespecial 165, 3) := by decide +kernel
theorem dX8_init_4 : decode cX8_init 4 = .ok (.aload_n 0, 1) := by decide +kernel
theorem dX8_init_5 : decode cX8_init 5 = .ok (.sipush 600, 3) := by decide +kernel
theorem dX8_init_8 : decode cX8_init 8 = .ok (.newarray .byte, 2) := by decide +kernel
theorem dX8_init_10 : decode cX8_init 10 = .ok (.putfield 10, 3) := by decide +kernel
theorem dX8_init_13 : decode cX8_init 13 = .ok (.aload_n 0, 1) := by decide +kernel
theorem dX8_init_14 : decode cX8_init 14 = .ok (.sipush 300, 3) := by decide +kernel
theorem dX8_init_17 : decode cX8_init 17 = .ok (.newarray .int, 2) := by decide +kernel
theorem dX8_init_19 : decode cX8_init 19 = .ok (.putfield 20, 3) := by decide +kernel
theorem dX8_init_22 : decode cX8_init 22 = .ok (.aload_n 0, 1) := by decide +kernel
theorem dX8_init_23 : decode cX8_init 23 = .ok (.sipush 300, 3) := by decide +kernel
theorem dX8_init_26 : decode cX8_init 26 = .ok (.newarray .int, 2) := by decide +kernel
theorem dX8_init_28 : decode cX8_init 28 = .ok (.putfield 27, 3) := by decide +kernel
theorem dX8_init_31 : decode cX8_init 31 = .ok (.aload_n 0, 1) := by decide +kernel
theorem dX8_init_32 : decode cX8_init 32 = .ok (.sipush 300, 3) := by decide +kernel
theorem dX8_init_35 : decode cX8_init 35 = .ok (.newarray .int, 2) := by decide +kernel
theorem dX8_init_37 : decode cX8_init 37 = .ok (.putfield 30, 3) := by decide +kernel
theorem dX8_init_40 : decode cX8_init 40 = .ok (.aload_n 0, 1) := by decide +kernel
theorem dX8_init_41 : decode cX8_init 41 = .ok (.bipush 81, 2) := by decide +kernel
theorem dX8_init_43 : decode cX8_init 43 = .ok (.newarray .int, 2) := by decide +kernel
theorem dX8_init_45 : decode cX8_init 45 = .ok (.putfield 43, 3) := by decide +kernel
theorem dX8_init_48 : decode cX8_init 48 = .ok (.aload_n 0, 1) := by decide +kernel
theorem dX8_init_49 : decode cX8_init 49 = .ok (.bipush 81, 2) := by decide +kernel
theorem dX8_init_51 : decode cX8_init 51 = .ok (.newarray .int, 2) := by decide +kernel
theorem dX8_init_53 : decode cX8_init 53 = .ok (.putfield 40, 3) := by decide +kernel
theorem dX8_init_56 : decode cX8_init 56 = .ok (.aload_n 0, 1) := by decide +kernel
theorem dX8_init_57 : decode cX8_init 57 = .ok (.bipush 41, 2) := by decide +kernel
theorem dX8_init_59 : decode cX8_init 59 = .ok (.newarray .int, 2) := by decide +kernel
theorem dX8_init_61 : decode cX8_init 61 = .ok (.putfield 56, 3) := by decide +kernel
theorem dX8_init_64 : decode cX8_init 64 = .ok (.aload_n 0, 1) := by decide +kernel
theorem dX8_init_65 : decode cX8_init 65 = .ok (.bipush 41, 2) := by decide +kernel
theorem dX8_init_67 : decode cX8_init 67 = .ok (.newarray .int, 2) := by decide +kernel
theorem dX8_init_69 : decode cX8_init 69 = .ok (.putfield 59, 3) := by decide +kernel
theorem dX8_init_72 : decode cX8_init 72 = .ok (.aload_n 0, 1) := by decide +kernel
theorem dX8_init_73 : decode cX8_init 73 = .ok (.sipush 3010, 3) := by decide +kernel
theorem dX8_init_76 : decode cX8_init 76 = .ok (.newarray .int, 2) := by decide +kernel
theorem dX8_init_78 : decode cX8_init 78 = .ok (.putfield 98, 3) := by decide +kernel
theorem dX8_init_81 : decode cX8_init 81 = .ok (.aload_n 0, 1) := by decide +kernel
theorem dX8_init_82 : decode cX8_init 82 = .ok (.sipush 3010, 3) := by decide +kernel
theorem dX8_init_85 : decode cX8_init 85 = .ok (.newarray .int, 2) := by decide +kernel
theorem dX8_init_87 : decode cX8_init 87 = .ok (.putfield 101, 3) := by decide +kernel
theorem dX8_init_90 : decode cX8_init 90 = .ok (.aload_n 0, 1) := by decide +kernel
theorem dX8_init_91 : decode cX8_init 91 = .ok (.sipush 9030, 3) := by decide +kernel
theorem dX8_init_94 : decode cX8_init 94 = .ok (.newarray .int, 2) := by decide +kernel
theorem dX8_init_96 : decode cX8_init 96 = .ok (.putfield 113, 3) := by decide +kernel
theorem dX8_init_99 : decode cX8_init 99 = .ok (.aload_n 0, 1) := by decide +kernel
theorem dX8_init_100 : decode cX8_init 100 = .ok (.sipush 3010, 3) := by decide +kernel
theorem dX8_init_103 : decode cX8_init 103 = .ok (.newarray .int, 2) := by decide +kernel
theorem dX8_init_105 : decode cX8_init 105 = .ok (.putfield 95, 3) := by decide +kernel
theorem dX8_init_108 : decode cX8_init 108 = .ok (.aload_n 0, 1) := by decide +kernel
theorem dX8_init_109 : decode cX8_init 109 = .ok (.sipush 12000, 3) := by decide +kernel
theorem dX8_init_112 : decode cX8_init 112 = .ok (.newarray .int, 2) := by decide +kernel
theorem dX8_init_114 : decode cX8_init 114 = .ok (.putfield 107, 3) := by decide +kernel
theorem dX8_init_117 : decode cX8_init 117 = .ok (.aload_n 0, 1) := by decide +kernel
theorem dX8_init_118 : decode cX8_init 118 = .ok (.sipush 24000, 3) := by decide +kernel
theorem dX8_init_121 : decode cX8_init 121 = .ok (.newarray .int, 2) := by decide +kernel
theorem dX8_init_123 : decode cX8_init 123 = .ok (.putfield 138, 3) := by decide +kernel
theorem dX8_init_126 : decode cX8_init 126 = .ok (.aload_n 0, 1) := by decide +kernel
theorem dX8_init_127 : decode cX8_init 127 = .ok (.sipush 300, 3) := by decide +kernel
theorem dX8_init_130 : decode cX8_init 130 = .ok (.newarray .int, 2) := by decide +kernel
theorem dX8_init_132 : decode cX8_init 132 = .ok (.putfield 120, 3) := by decide +kernel
theorem dX8_init_135 : decode cX8_init 135 = .ok (.aload_n 0, 1) := by decide +kernel
theorem dX8_init_136 : decode cX8_init 136 = .ok (.sipush 300, 3) := by decide +kernel
theorem dX8_init_139 : decode cX8_init 139 = .ok (.newarray .int, 2) := by decide +kernel
theorem dX8_init_141 : decode cX8_init 141 = .ok (.putfield 123, 3) := by decide +kernel
theorem dX8_init_144 : decode cX8_init 144 = .ok (.aload_n 0, 1) := by decide +kernel
theorem dX8_init_145 : decode cX8_init 145 = .ok (.bipush 6, 2) := by decide +kernel
theorem dX8_init_147 : decode cX8_init 147 = .ok (.newarray .int, 2) := by decide +kernel
theorem dX8_init_149 : decode cX8_init 149 = .ok (.putfield 170, 3) := by decide +kernel
theorem dX8_init_152 : decode cX8_init 152 = .ok (.aload_n 0, 1) := by decide +kernel
theorem dX8_init_153 : decode cX8_init 153 = .ok (.sipush 4010, 3) := by decide +kernel
theorem dX8_init_156 : decode cX8_init 156 = .ok (.newarray .int, 2) := by decide +kernel
theorem dX8_init_158 : decode cX8_init 158 = .ok (.putfield 173, 3) := by decide +kernel
theorem dX8_init_161 : decode cX8_init 161 = .ok (.aload_n 0, 1) := by decide +kernel
theorem dX8_init_162 : decode cX8_init 162 = .ok (.sipush 4010, 3) := by decide +kernel
theorem dX8_init_165 : decode cX8_init 165 = .ok (.newarray .int, 2) := by decide +kernel
theorem dX8_init_167 : decode cX8_init 167 = .ok (.putfield 176, 3) := by decide +kernel
theorem dX8_init_170 : decode cX8_init 170 = .ok (.aload_n 0, 1) := by decide +kernel
theorem dX8_init_171 : decode cX8_init 171 = .ok (.sipush 4010, 3) := by decide +kernel
theorem dX8_init_174 : decode cX8_init 174 = .ok (.newarray .int, 2) := by decide +kernel
theorem dX8_init_176 : decode cX8_init 176 = .ok (.putfield 179, 3) := by decide +kernel
theorem dX8_init_179 : decode cX8_init 179 = .ok (.aload_n 0, 1) := by decide +kernel
theorem dX8_init_180 : decode cX8_init 180 = .ok (.sipush 4010, 3) := by decide +kernel
theorem dX8_init_183 : decode cX8_init 183 = .ok (.newarray .int, 2) := by decide +kernel
theorem dX8_init_185 : decode cX8_init 185 = .ok (.putfield 182, 3) := by decide +kernel
theorem dX8_init_188 : decode cX8_init 188 = .ok (.aload_n 0, 1) := by decide +kernel
theorem dX8_init_189 : decode cX8_init 189 = .ok (.sipush 512, 3) := by decide +kernel
theorem dX8_init_192 : decode cX8_init 192 = .ok (.newarray .int, 2) := by decide +kernel
theorem dX8_init_194 : decode cX8_init 194 = .ok (.putfield 185, 3) := by decide +kernel
theorem dX8_init_197 : decode cX8_init 197 = .ok (.aload_n 0, 1) := by decide +kernel
theorem dX8_init_198 : decode cX8_init 198 = .ok (.ldc 188, 2) := by decide +kernel
theorem dX8_init_200 : decode cX8_init 200 = .ok (.newarray .int, 2) := by decide +kernel
theorem dX8_init_202 : decode cX8_init 202 = .ok (.putfield 189, 3) := by decide +kernel
theorem dX8_init_205 : decode cX8_init 205 = .ok (.aload_n 0, 1) := by decide +kernel
theorem dX8_init_206 : decode cX8_init 206 = .ok (.ldc 188, 2) := by decide +kernel
theorem dX8_init_208 : decode cX8_init 208 = .ok (.newarray .int, 2) := by decide +kernel
theorem dX8_init_210 : decode cX8_init 210 = .ok (.putfield 192, 3) := by decide +kernel
theorem dX8_init_213 : decode cX8_init 213 = .ok (.aload_n 0, 1) := by decide +kernel
theorem dX8_init_214 : decode cX8_init 214 = .ok (.bipush 64, 2) := by decide +kernel
theorem dX8_init_216 : decode cX8_init 216 = .ok (.newarray .int, 2) := by decide +kernel
theorem dX8_init_218 : decode cX8_init 218 = .ok (.putfield 195, 3) := by decide +kernel
theorem dX8_init_221 : decode cX8_init 221 = .ok (.aload_n 0, 1) := by decide +kernel
theorem dX8_init_222 : decode cX8_init 222 = .ok (.sipush 4000, 3) := by decide +kernel
theorem dX8_init_225 : decode cX8_init 225 = .ok (.newarray .byte, 2) := by decide +kernel
theorem dX8_init_227 : decode cX8_init 227 = .ok (.putfield 198, 3) := by decide +kernel
theorem dX8_init_230 : decode cX8_init 230 = .ok (.aload_n 0, 1) := by decide +kernel
theorem dX8_init_231 : decode cX8_init 231 = .ok (.sipush 4010, 3) := by decide +kernel
theorem dX8_init_234 : decode cX8_init 234 = .ok (.newarray .int, 2) := by decide +kernel
theorem dX8_init_236 : decode cX8_init 236 = .ok (.putfield 201, 3) := by decide +kernel
theorem dX8_init_239 : decode cX8_init 239 = .ok (.aload_n 0, 1) := by decide +kernel
theorem dX8_init_240 : decode cX8_init 240 = .ok (.sipush 4010, 3) := by decide +kernel
theorem dX8_init_243 : decode cX8_init 243 = .ok (.newarray .int, 2) := by decide +kernel
theorem dX8_init_245 : decode cX8_init 245 = .ok (.putfield 204, 3) := by decide +kernel
theorem dX8_init_248 : decode cX8_init 248 = .ok (.aload_n 0, 1) := by decide +kernel
theorem dX8_init_249 : decode cX8_init 249 = .ok (.sipush 8010, 3) := by decide +kernel
theorem dX8_init_252 : decode cX8_init 252 = .ok (.newarray .int, 2) := by decide +kernel
theorem dX8_init_254 : decode cX8_init 254 = .ok (.putfield 207, 3) := by decide +kernel
theorem dX8_init_257 : decode cX8_init 257 = .ok (.aload_n 0, 1) := by decide +kernel
theorem dX8_init_258 : decode cX8_init 258 = .ok (.sipush 8010, 3) := by decide +kernel
theorem dX8_init_261 : decode cX8_init 261 = .ok (.newarray .int, 2) := by decide +kernel
theorem dX8_init_263 : decode cX8_init 263 = .ok (.putfield 210, 3) := by decide +kernel
theorem dX8_init_266 : decode cX8_init 266 = .ok (.aload_n 0, 1) := by decide +kernel
theorem dX8_init_267 : decode cX8_init 267 = .ok (.iconst 1, 1) := by decide +kernel
theorem dX8_init_268 : decode cX8_init 268 = .ok (.putfield 62, 3) := by decide +kernel
theorem dX8_init_271 : decode cX8_init 271 = .ok (.aload_n 0, 1) := by decide +kernel
theorem dX8_init_272 : decode cX8_init 272 = .ok (.aload_n 0, 1) := by decide +kernel
theorem dX8_init_273 : decode cX8_init 273 = .ok (.iconst 1, 1) := by decide +kernel
theorem dX8_init_274 : decode cX8_init 274 = .ok (.iconst 0, 1) := by decide +kernel
theorem dX8_init_275 : decode cX8_init 275 = .ok (.aload_n 0, 1) := by decide +kernel
theorem dX8_init_276 : decode cX8_init 276 = .ok (.iconst 0, 1) := by decide +kernel
theorem dX8_init_277 : decode cX8_init 277 = .ok (.iconst 0, 1) := by decide +kernel
theorem dX8_init_278 : decode cX8_init 278 = .ok (.iconst 0, 1) := by decide +kernel
theorem dX8_init_279 : decode cX8_init 279 = .ok (.invokevirtual 76, 3) := by decide +kernel
theorem dX8_init_282 : decode cX8_init 282 = .ok (.invokevirtual 76, 3) := by decide +kernel
theorem dX8_init_285 : decode cX8_init 285 = .ok (.invokevirtual 213, 3) := by decide +kernel
theorem dX8_init_288 : decode cX8_init 288 = .ok (.return_, 1) := by decide +kernel
set_option maxRecDepth 20000 in
theorem ggX8_read_X8_term : GoodIn wsX8_read wsX8_term := goodIn_r _ [15, 3, 2, 4, 16, 17, 18, 19, 14, 20, 9, 21, 22, 23, 24, 25, 7, 26, 6, 27, 28, 29, 30, 31, 32, 33, 34, 35, 36, 37, 38, 39, 40, 41, 42, 43, 5, 44, 45, 46, 47, 48, 8, 49, 50, 51, 52, 53, 54, 55, 56, 57, 58, 125, 126, 127, 128, 129, 130, 131, 132, 133, 134, 135, 136, 137, 138, 139, 140, 141, 142, 143, 144, 145, 146, 147, 148, 149, 150, 151, 152, 153, 154, 155, 156, 157, 158, 159, 160, 161, 162, 163, 164, 165, 166, 167, 168, 169, 170, 171, 172, 173, 174, 175, 176, 177, 178, 179, 180, 181, 182] (by decide +kernel) (by decide +kernel)
set_option maxRecDepth 20000 in
theorem gX8_read_X8_term : GoodIn wsX8_read (wsV RX8 216 RX8 yX8_term wsX8_term) := goodIn_app (goodIn_of _ (by decide +kernel)) ggX8_read_X8_term
set_option maxRecDepth 20000 in
theorem ggX8_read_X8_begin : GoodIn wsX8_read wsX8_begin := goodIn_r _ [62, 63, 64, 65, 10, 66, 67, 68, 69, 70, 71, 72, 73, 74, 14, 75, 76, 77, 78, 79, 80, 81, 48, 49, 50, 82, 83, 84, 85, 86, 7, 87, 88, 89, 90, 91, 92, 93, 94, 95, 96, 97, 98, 99, 100, 101, 102, 103, 104, 105, 106, 107, 108, 109, 110, 111, 112, 113, 114, 115, 116, 117, 118, 119, 120, 121, 122, 123, 124, 125, 126, 127, 128, 129, 130, 131, 132, 133, 134, 135, 136, 137, 138, 139, 140, 141, 142, 143, 144, 145, 146, 147, 148, 149, 150, 151, 152, 153, 154, 155, 156, 157, 158, 159, 160, 161, 162, 163, 164, 165, 166, 167, 168, 169, 170, 171, 172, 173, 174, 175, 176, 177, 178, 179, 180, 181, 182] (by decide +kernel) (by decide +kernel)
set_option maxRecDepth 20000 in
theorem gX8_read_X8_begin : GoodIn wsX8_read (wsV RX8 213 RX8 yX8_begin wsX8_begin) := goodIn_app (goodIn_of _ (by decide +kernel)) ggX8_read_X8_begin
theorem dX8_read_0 : decode cX8_read 0 = .ok (.aload_n 0, 1) := by decide +kernel
theorem dX8_read_1 : decode cX8_read 1 = .ok (.iconst 0, 1) := by decide +kernel
theorem dX8_read_2 : decode cX8_read 2 = .ok (.putfield 1, 3) := by decide +kernel
theorem dX8_read_5 : decode cX8_read 5 = .ok (.aload_n 0, 1) := by decide +kernel
theorem dX8_read_6 : decode cX8_read 6 = .ok (.iconst 0, 1) := by decide +kernel
theorem dX8_read_7 : decode cX8_read 7 = .ok (.putfield 14, 3) := by decide +kernel
theorem dX8_read_10 : decode cX8_read 10 = .ok (.aload_n 0, 1) := by decide +kernel
theorem dX8_read_11 : decode cX8_read 11 = .ok (.iconst 0, 1) := by decide +kernel
theorem dX8_read_12 : decode cX8_read 12 = .ok (.putfield 17, 3) := by decide +kernel
theorem dX8_read_15 : decode cX8_read 15 = .ok (.aload_n 0, 1) := by decide +kernel
theorem dX8_read_16 : decode cX8_read 16 = .ok (.iconst 0, 1) := by decide +kernel
theorem dX8_read_17 : decode cX8_read 17 = .ok (.putfield 53, 3) := by decide +kernel
theorem dX8_read_20 : decode cX8_read 20 = .ok (.aload_n 0, 1) := by decide +kernel
theorem dX8_read_21 : decode cX8_read 21 = .ok (.iconst 0, 1) := by decide +kernel
theorem dX8_read_22 : decode cX8_read 22 = .ok (.putfield 50, 3) := by decide +kernel
theorem dX8_read_25 : decode cX8_read 25 = .ok (.aload_n 0, 1) := by decide +kernel
theorem dX8_read_26 : decode cX8_read 26 = .ok (.iconst 0, 1) := by decide +kernel
theorem dX8_read_27 : decode cX8_read 27 = .ok (.putfield 37, 3) := by decide +kernel
theorem dX8_read_30 : decode cX8_read 30 = .ok (.aload_n 0, 1) := by decide +kernel
theorem dX8_read_31 : decode cX8_read 31 = .ok (.iconst 0, 1) := by decide +kernel
theorem dX8_read_32 : decode cX8_read 32 = .ok (.putfield 62, 3) := by decide +kernel
theorem dX8_read_35 : decode cX8_read 35 = .ok (.aload_n 0, 1) := by decide +kernel
theorem dX8_read_36 : decode cX8_read 36 = .ok (.iconst 0, 1) := by decide +kernel
theorem dX8_read_37 : decode cX8_read 37 = .ok (.putfield 24, 3) := by decide +kernel
theorem dX8_read_40 : decode cX8_read 40 = .ok (.aload_n 0, 1) := by decide +kernel
theorem dX8_read_41 : decode cX8_read 41 = .ok (.invokevirtual 216, 3) := by decide +kernel
theorem dX8_read_44 : decode cX8_read 44 = .ok (.istore_n 1, 1) := by decide +kernel
theorem dX8_read_45 : decode cX8_read 45 = .ok (.aload_n 0, 1) := by decide +kernel
theorem dX8_read_46 : decode cX8_read 46 = .ok (.iconst 0, 1) := by decide +kernel
theorem dX8_read_47 : decode cX8_read 47 = .ok (.putfield 7, 3) := by decide +kernel
theorem dX8_read_50 : decode cX8_read 50 = .ok (.aload_n 0, 1) := by decide +kernel
theorem dX8_read_51 : decode cX8_read 51 = .ok (.getfield 17, 3) := by decide +kernel
theorem dX8_read_54 : decode cX8_read 54 = .ok (.ifCond .le 10, 3) := by decide +kernel
theorem dX8_read_57 : decode cX8_read 57 = .ok (.iconst (-1), 1) := by decide +kernel
theorem dX8_read_58 : decode cX8_read 58 = .ok (.aload_n 0, 1) := by decide +kernel
theorem dX8_read_59 : decode cX8_read 59 = .ok (.getfield 14, 3) := by decide +kernel
theorem dX8_read_62 : decode cX8_read 62 = .ok (.isub, 1) := by decide +kernel
theorem dX8_read_63 : decode cX8_read 63 = .ok (.ireturn, 1) := by decide +kernel
theorem dX8_read_64 : decode cX8_read 64 = .ok (.aload_n 0, 1) := by decide +kernel
theorem dX8_read_65 : decode cX8_read 65 = .ok (.iload_n 1, 1) := by decide +kernel
theorem dX8_read_66 : decode cX8_read 66 = .ok (.invokevirtual 213, 3) := by decide +kernel
theorem dX8_read_69 : decode cX8_read 69 = .ok (.aload_n 0, 1) := by decide +kernel
theorem dX8_read_70 : decode cX8_read 70 = .ok (.getfield 104, 3) := by decide +kernel
theorem dX8_read_73 : decode cX8_read 73 = .ok (.ireturn, 1) := by decide +kernel
theorem dX8_beyond_0 : decode cX8_beyond 0 = .ok (.aload_n 0, 1) := by decide +kernel
theorem dX8_beyond_1 : decode cX8_beyond 1 = .ok (.getfield 113, 3) := by decide +kernel
theorem dX8_beyond_4 : decode cX8_beyond 4 = .ok (.iload_n 1, 1) := by decide +kernel
theorem dX8_beyond_5 : decode cX8_beyond 5 = .ok (.iaload, 1) := by decide +kernel
theorem dX8_beyond_6 : decode cX8_beyond 6 = .ok (.istore 4, 2) := by decide +kernel
theorem dX8_beyond_8 : decode cX8_beyond 8 = .ok (.iload 4, 2) := by decide +kernel
theorem dX8_beyond_10 : decode cX8_beyond 10 = .ok (.iconst 3, 1) := by decide +kernel
theorem dX8_beyond_11 : decode cX8_beyond 11 = .ok (.idiv, 1) := by decide +kernel
theorem dX8_beyond_12 : decode cX8_beyond 12 = .ok (.iload_n 2, 1) := by decide +kernel
theorem dX8_beyond_13 : decode cX8_beyond 13 = .ok (.if_icmp .eq 11, 3) := by decide +kernel
theorem dX8_beyond_16 : decode cX8_beyond 16 = .ok (.iload 4, 2) := by decide +kernel
theorem dX8_beyond_18 : decode cX8_beyond 18 = .ok (.iconst 3, 1) := by decide +kernel
theorem dX8_beyond_19 : decode cX8_beyond 19 = .ok (.idiv, 1) := by decide +kernel
theorem dX8_beyond_20 : decode cX8_beyond 20 = .ok (.iload_n 3, 1) := by decide +kernel
theorem dX8_beyond_21 : decode cX8_beyond 21 = .ok (.if_icmp .ne 33, 3) := by decide +kernel
theorem dX8_beyond_24 : decode cX8_beyond 24 = .ok (.aload_n 0, 1) := by decide +kernel
theorem dX8_beyond_25 : decode cX8_beyond 25 = .ok (.getfield 113, 3) := by decide +kernel
theorem dX8_beyond_28 : decode cX8_beyond 28 = .ok (.iconst 3, 1) := by decide +kernel
theorem dX8_beyond_29 : decode cX8_beyond 29 = .ok (.iload 4, 2) := by decide +kernel
theorem dX8_beyond_31 : decode cX8_beyond 31 = .ok (.iconst 3, 1) := by decide +kernel
theorem dX8_beyond_32 : decode cX8_beyond 32 = .ok (.idiv, 1) := by decide +kernel
theorem dX8_beyond_33 : decode cX8_beyond 33 = .ok (.iload_n 2, 1) := by decide +kernel
theorem dX8_beyond_34 : decode cX8_beyond 34 = .ok (.if_icmp .ne 7, 3) := by decide +kernel
theorem dX8_beyond_37 : decode cX8_beyond 37 = .ok (.iload_n 3, 1) := by decide +kernel
theorem dX8_beyond_38 : decode cX8_beyond 38 = .ok (.goto 4, 3) := by decide +kernel
theorem dX8_beyond_41 : decode cX8_beyond 41 = .ok (.iload_n 2, 1) := by decide +kernel
theorem dX8_beyond_42 : decode cX8_beyond 42 = .ok (.imul, 1) := by decide +kernel
theorem dX8_beyond_43 : decode cX8_beyond 43 = .ok (.iload 4, 2) := by decide +kernel
theorem dX8_beyond_45 : decode cX8_beyond 45 = .ok (.iconst 3, 1) := by decide +kernel
theorem dX8_beyond_46 : decode cX8_beyond 46 = .ok (.irem, 1) := by decide +kernel
theorem dX8_beyond_47 : decode cX8_beyond 47 = .ok (.iadd, 1) := by decide +kernel
theorem dX8_beyond_48 : decode cX8_beyond 48 = .ok (.iaload, 1) := by decide +kernel
theorem dX8_beyond_49 : decode cX8_beyond 49 = .ok (.istore 4, 2) := by decide +kernel
theorem dX8_beyond_51 : decode cX8_beyond 51 = .ok (.goto (-43), 3) := by decide +kernel
theorem dX8_beyond_54 : decode cX8_beyond 54 = .ok (.iload 4, 2) := by decide +kernel
theorem dX8_beyond_56 : decode cX8_beyond 56 = .ok (.ireturn, 1) := by decide +kernel
