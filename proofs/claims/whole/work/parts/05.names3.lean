theorem dX2_erase_32 : decode cX2_erase 32 = .ok (.aload_n 0, 1) := by decide +kernel
theorem dX2_erase_33 : decode cX2_erase 33 = .ok (.aload_n 0, 1) := by decide +kernel
theorem dX2_erase_34 : decode cX2_erase 34 = .ok (.iload 4, 2) := by decide +kernel
theorem dX2_erase_36 : decode cX2_erase 36 = .ok (.invokevirtual 55, 3) := by decide +kernel
theorem dX2_erase_39 : decode cX2_erase 39 = .ok (.invokestatic 48, 3) := by decide +kernel
theorem dX2_erase_42 : decode cX2_erase 42 = .ok (.invokevirtual 70, 3) := by decide +kernel
theorem dX2_erase_45 : decode cX2_erase 45 = .ok (.goto 19, 3) := by decide +kernel
theorem dX2_erase_48 : decode cX2_erase 48 = .ok (.aload_n 0, 1) := by decide +kernel
theorem dX2_erase_49 : decode cX2_erase 49 = .ok (.iload 4, 2) := by decide +kernel
theorem dX2_erase_51 : decode cX2_erase 51 = .ok (.aload_n 0, 1) := by decide +kernel
theorem dX2_erase_52 : decode cX2_erase 52 = .ok (.iconst 5, 1) := by decide +kernel
theorem dX2_erase_53 : decode cX2_erase 53 = .ok (.iconst (-1), 1) := by decide +kernel
theorem dX2_erase_54 : decode cX2_erase 54 = .ok (.invokevirtual 90, 3) := by decide +kernel
theorem dX2_erase_57 : decode cX2_erase 57 = .ok (.iconst 0, 1) := by decide +kernel
theorem dX2_erase_58 : decode cX2_erase 58 = .ok (.invokestatic 66, 3) := by decide +kernel
theorem dX2_erase_61 : decode cX2_erase 61 = .ok (.invokevirtual 93, 3) := by decide +kernel
theorem dX2_erase_64 : decode cX2_erase 64 = .ok (.iinc 3 1, 3) := by decide +kernel
theorem dX2_erase_67 : decode cX2_erase 67 = .ok (.goto (-56), 3) := by decide +kernel
theorem dX2_erase_70 : decode cX2_erase 70 = .ok (.aload_n 0, 1) := by decide +kernel
theorem dX2_erase_71 : decode cX2_erase 71 = .ok (.iload_n 1, 1) := by decide +kernel
theorem dX2_erase_72 : decode cX2_erase 72 = .ok (.invokevirtual 70, 3) := by decide +kernel
theorem dX2_erase_75 : decode cX2_erase 75 = .ok (.aload_n 0, 1) := by decide +kernel
theorem dX2_erase_76 : decode cX2_erase 76 = .ok (.dup, 1) := by decide +kernel
theorem dX2_erase_77 : decode cX2_erase 77 = .ok (.getfield 41, 3) := by decide +kernel
theorem dX2_erase_80 : decode cX2_erase 80 = .ok (.iconst 1, 1) := by decide +kernel
theorem dX2_erase_81 : decode cX2_erase 81 = .ok (.iadd, 1) := by decide +kernel
theorem dX2_erase_82 : decode cX2_erase 82 = .ok (.putfield 41, 3) := by decide +kernel
theorem dX2_erase_85 : decode cX2_erase 85 = .ok (.return_, 1) := by decide +kernel
theorem dX3_init_0 : decode cX3_init 0 = .ok (.aload_n 0, 1) := by decide +kernel
theorem dX3_init_1 : decode cX3_init 1 = .ok (.invokespecial 3, 3) := by decide +kernel
theorem dX3_init_4 : decode cX3_init 4 = .ok (.aload_n 0, 1) := by decide +kernel
theorem dX3_init_5 : decode cX3_init 5 = .ok (.aload_n 1, 1) := by decide +kernel
theorem dX3_init_6 : decode cX3_init 6 = .ok (.putfield 9, 3) := by decide +kernel
theorem dX3_init_9 : decode cX3_init 9 = .ok (.return_, 1) := by decide +kernel
theorem dX3_clear_0 : decode cX3_clear 0 = .ok (.aload_n 0, 1) := by decide +kernel
theorem dX3_clear_1 : decode cX3_clear 1 = .ok (.iconst 0, 1) := by decide +kernel
theorem dX3_clear_2 : decode cX3_clear 2 = .ok (.putfield 15, 3) := by decide +kernel
theorem dX3_clear_5 : decode cX3_clear 5 = .ok (.aload_n 0, 1) := by decide +kernel
theorem dX3_clear_6 : decode cX3_clear 6 = .ok (.iconst 0, 1) := by decide +kernel
theorem dX3_clear_7 : decode cX3_clear 7 = .ok (.putfield 19, 3) := by decide +kernel
theorem dX3_clear_10 : decode cX3_clear 10 = .ok (.aload_n 0, 1) := by decide +kernel
theorem dX3_clear_11 : decode cX3_clear 11 = .ok (.iconst 0, 1) := by decide +kernel
theorem dX3_clear_12 : decode cX3_clear 12 = .ok (.putfield 22, 3) := by decide +kernel
theorem dX3_clear_15 : decode cX3_clear 15 = .ok (.return_, 1) := by decide +kernel
theorem dX3_betas_0 : decode cX3_betas 0 = .ok (.aload_n 0, 1) := by decide +kernel
theorem dX3_betas_1 : decode cX3_betas 1 = .ok (.getfield 15, 3) := by decide +kernel
theorem dX3_betas_4 : decode cX3_betas 4 = .ok (.ireturn, 1) := by decide +kernel
theorem dX3_annihilations_0 : decode cX3_annihilations 0 = .ok (.aload_n 0, 1) := by decide +kernel
theorem dX3_annihilations_1 : decode cX3_annihilations 1 = .ok (.getfield 19, 3) := by decide +kernel
theorem dX3_annihilations_4 : decode cX3_annihilations 4 = .ok (.ireturn, 1) := by decide +kernel
theorem dX3_passings_0 : decode cX3_passings 0 = .ok (.aload_n 0, 1) := by decide +kernel
theorem dX3_passings_1 : decode cX3_passings 1 = .ok (.getfield 22, 3) := by decide +kernel
theorem dX3_passings_4 : decode cX3_passings 4 = .ok (.ireturn, 1) := by decide +kernel
set_option maxRecDepth 20000 in
theorem ggX3_refusal_X3_isBeta : GoodIn wsX3_refusal wsX3_isBeta := goodIn_r _ [5, 6, 7, 8, 9, 10, 11, 12, 13, 14, 15, 4, 16, 17, 18, 19, 20, 21, 48, 49, 50, 51, 52, 53, 54, 55, 56, 57, 58, 59, 60, 61] (by decide +kernel) (by decide +kernel)
set_option maxRecDepth 20000 in
theorem gX3_refusal_X3_isBeta : GoodIn wsX3_refusal (wsV RX3 25 RX3 yX3_isBeta wsX3_isBeta) := goodIn_app (goodIn_of _ (by decide +kernel)) ggX3_refusal_X3_isBeta
set_option maxRecDepth 20000 in
theorem ggX3_refusal_X3_isAnnihilation : GoodIn wsX3_refusal wsX3_isAnnihilation := goodIn_r _ [25, 6, 7, 8, 9, 10, 11, 12, 13, 14, 15, 4, 16, 17, 18, 19, 20, 21, 26, 27, 28, 48, 49, 50, 51, 52, 53, 54, 55, 56, 57, 58, 59, 60, 61] (by decide +kernel) (by decide +kernel)
set_option maxRecDepth 20000 in
theorem gX3_refusal_X3_isAnnihilation : GoodIn wsX3_refusal (wsV RX3 29 RX3 yX3_isAnnihilation wsX3_isAnnihilation) := goodIn_app (goodIn_of _ (by decide +kernel)) ggX3_refusal_X3_isAnnihilation
set_option maxRecDepth 20000 in
theorem ggX3_refusal_X3_passes : GoodIn wsX3_refusal wsX3_passes := goodIn_r _ [32, 6, 7, 8, 9, 10, 11, 12, 26, 27, 28, 17, 18, 19, 20, 21, 48, 49, 50, 51, 52, 53, 54, 55, 56, 57, 58, 59, 60, 61] (by decide +kernel) (by decide +kernel)
set_option maxRecDepth 20000 in
theorem gX3_refusal_X3_passes : GoodIn wsX3_refusal (wsV RX3 32 RX3 yX3_passes wsX3_passes) := goodIn_app (goodIn_of _ (by decide +kernel)) ggX3_refusal_X3_passes
set_option maxRecDepth 20000 in
theorem ggX3_refusal_X3_hasRoom : GoodIn wsX3_refusal wsX3_hasRoom := goodIn_r _ [36, 6, 7, 8, 9, 10, 11, 12, 37, 38, 39, 40, 41, 42, 27, 43, 44, 45, 46, 4, 47, 17, 18, 19, 20, 21, 48, 49, 50, 51, 52, 53, 54, 55, 56, 57, 58, 59, 60, 61] (by decide +kernel) (by decide +kernel)
set_option maxRecDepth 20000 in
theorem gX3_refusal_X3_hasRoom : GoodIn wsX3_refusal (wsV RX3 35 RX3 yX3_hasRoom wsX3_hasRoom) := goodIn_app (goodIn_of _ (by decide +kernel)) ggX3_refusal_X3_hasRoom
theorem dX3_refusal_0 : decode cX3_refusal 0 = .ok (.aload_n 0, 1) := by decide +kernel
theorem dX3_refusal_1 : decode cX3_refusal 1 = .ok (.iload_n 1, 1) := by decide +kernel
theorem dX3_refusal_2 : decode cX3_refusal 2 = .ok (.iload_n 2, 1) := by decide +kernel
theorem dX3_refusal_3 : decode cX3_refusal 3 = .ok (.invokevirtual 25, 3) := by decide +kernel
theorem dX3_refusal_6 : decode cX3_refusal 6 = .ok (.ifCond .ne 12, 3) := by decide +kernel
theorem dX3_refusal_9 : decode cX3_refusal 9 = .ok (.aload_n 0, 1) := by decide +kernel
theorem dX3_refusal_10 : decode cX3_refusal 10 = .ok (.iload_n 1, 1) := by decide +kernel
theorem dX3_refusal_11 : decode cX3_refusal 11 = .ok (.iload_n 2, 1) := by decide +kernel
theorem dX3_refusal_12 : decode cX3_refusal 12 = .ok (.invokevirtual 29, 3) := by decide +kernel
theorem dX3_refusal_15 : decode cX3_refusal 15 = .ok (.ifCond .eq 5, 3) := by decide +kernel
theorem dX3_refusal_18 : decode cX3_refusal 18 = .ok (.iconst 5, 1) := by decide +kernel
theorem dX3_refusal_19 : decode cX3_refusal 19 = .ok (.ireturn, 1) := by decide +kernel
theorem dX3_refusal_20 : decode cX3_refusal 20 = .ok (.aload_n 0, 1) := by decide +kernel
theorem dX3_refusal_21 : decode cX3_refusal 21 = .ok (.iload_n 1, 1) := by decide +kernel
theorem dX3_refusal_22 : decode cX3_refusal 22 = .ok (.iload_n 2, 1) := by decide +kernel
theorem dX3_refusal_23 : decode cX3_refusal 23 = .ok (.invokevirtual 32, 3) := by decide +kernel
theorem dX3_refusal_26 : decode cX3_refusal 26 = .ok (.ifCond .eq 18, 3) := by decide +kernel
theorem dX3_refusal_29 : decode cX3_refusal 29 = .ok (.aload_n 0, 1) := by decide +kernel
theorem dX3_refusal_30 : decode cX3_refusal 30 = .ok (.iload_n 1, 1) := by decide +kernel
theorem dX3_refusal_31 : decode cX3_refusal 31 = .ok (.iload_n 2, 1) := by decide +kernel
theorem dX3_refusal_32 : decode cX3_refusal 32 = .ok (.invokevirtual 35, 3) := by decide +kernel
theorem dX3_refusal_35 : decode cX3_refusal 35 = .ok (.ifCond .eq 7, 3) := by decide +kernel
theorem dX3_refusal_38 : decode cX3_refusal 38 = .ok (.iconst 5, 1) := by decide +kernel
theorem dX3_refusal_39 : decode cX3_refusal 39 = .ok (.goto 4, 3) := by decide +kernel
theorem dX3_refusal_42 : decode cX3_refusal 42 = .ok (.iconst 2, 1) := by decide +kernel
theorem dX3_refusal_43 : decode cX3_refusal 43 = .ok (.ireturn, 1) := by decide +kernel
theorem dX3_refusal_44 : decode cX3_refusal 44 = .ok (.aload_n 0, 1) := by decide +kernel
theorem dX3_refusal_45 : decode cX3_refusal 45 = .ok (.iload_n 2, 1) := by decide +kernel
theorem dX3_refusal_46 : decode cX3_refusal 46 = .ok (.iload_n 1, 1) := by decide +kernel
theorem dX3_refusal_47 : decode cX3_refusal 47 = .ok (.invokevirtual 32, 3) := by decide +kernel
theorem dX3_refusal_50 : decode cX3_refusal 50 = .ok (.ifCond .eq 18, 3) := by decide +kernel
theorem dX3_refusal_53 : decode cX3_refusal 53 = .ok (.aload_n 0, 1) := by decide +kernel
theorem dX3_refusal_54 : decode cX3_refusal 54 = .ok (.iload_n 2, 1) := by decide +kernel
theorem dX3_refusal_55 : decode cX3_refusal 55 = .ok (.iload_n 1, 1) := by decide +kernel
theorem dX3_refusal_56 : decode cX3_refusal 56 = .ok (.invokevirtual 35, 3) := by decide +kernel
theorem dX3_refusal_59 : decode cX3_refusal 59 = .ok (.ifCond .eq 7, 3) := by decide +kernel
theorem dX3_refusal_62 : decode cX3_refusal 62 = .ok (.iconst 5, 1) := by decide +kernel
theorem dX3_refusal_63 : decode cX3_refusal 63 = .ok (.goto 4, 3) := by decide +kernel
theorem dX3_refusal_66 : decode cX3_refusal 66 = .ok (.iconst 2, 1) := by decide +kernel
theorem dX3_refusal_67 : decode cX3_refusal 67 = .ok (.ireturn, 1) := by decide +kernel
theorem dX3_refusal_68 : decode cX3_refusal 68 = .ok (.iconst 4, 1) := by decide +kernel
theorem dX3_refusal_69 : decode cX3_refusal 69 = .ok (.ireturn, 1) := by decide +kernel
set_option maxRecDepth 20000 in
theorem ggX3_act_X3_isBeta : GoodIn wsX3_act wsX3_isBeta := goodIn_r _ [7, 8, 9, 10, 11, 12, 13, 14, 15, 16, 17, 6, 18, 19, 20, 21, 22, 23, 91, 92, 93, 94, 95, 96, 97, 98, 99, 100, 101, 102, 103, 104] (by decide +kernel) (by decide +kernel)
set_option maxRecDepth 20000 in
theorem gX3_act_X3_isBeta : GoodIn wsX3_act (wsV RX3 25 RX3 yX3_isBeta wsX3_isBeta) := goodIn_app (goodIn_of _ (by decide +kernel)) ggX3_act_X3_isBeta
set_option maxRecDepth 20000 in
theorem ggX3_act_X3_joinPorts : GoodIn wsX3_act wsX3_joinPorts := goodIn_r _ [27, 8, 9, 10, 11, 12, 13, 14, 28, 29, 30, 31, 32, 33, 34, 35, 36, 37, 38, 39, 40, 41, 42, 43, 44, 45, 46, 47, 48, 49, 50, 51, 52, 53, 54, 55, 56, 57, 58, 59, 60, 61, 62, 91, 92, 93, 94, 95, 96, 97, 98, 99, 100, 101, 102, 103, 104] (by decide +kernel) (by decide +kernel)
set_option maxRecDepth 20000 in
theorem gX3_act_X3_joinPorts : GoodIn wsX3_act (wsV RX3 38 RX3 yX3_joinPorts wsX3_joinPorts) := goodIn_app (goodIn_of _ (by decide +kernel)) ggX3_act_X3_joinPorts
set_option maxRecDepth 20000 in
theorem ggX3_act_X3_isAnnihilation : GoodIn wsX3_act wsX3_isAnnihilation := goodIn_r _ [66, 8, 9, 10, 11, 12, 13, 14, 15, 16, 17, 6, 18, 19, 20, 21, 22, 23, 67, 29, 68, 91, 92, 93, 94, 95, 96, 97, 98, 99, 100, 101, 102, 103, 104] (by decide +kernel) (by decide +kernel)
set_option maxRecDepth 20000 in
theorem gX3_act_X3_isAnnihilation : GoodIn wsX3_act (wsV RX3 29 RX3 yX3_isAnnihilation wsX3_isAnnihilation) := goodIn_app (goodIn_of _ (by decide +kernel)) ggX3_act_X3_isAnnihilation
set_option maxRecDepth 20000 in
theorem ggX3_act_X3_passes : GoodIn wsX3_act wsX3_passes := goodIn_r _ [72, 8, 9, 10, 11, 12, 13, 14, 67, 29, 68, 19, 20, 21, 22, 23, 91, 92, 93, 94, 95, 96, 97, 98, 99, 100, 101, 102, 103, 104] (by decide +kernel) (by decide +kernel)
set_option maxRecDepth 20000 in
theorem gX3_act_X3_passes : GoodIn wsX3_act (wsV RX3 32 RX3 yX3_passes wsX3_passes) := goodIn_app (goodIn_of _ (by decide +kernel)) ggX3_act_X3_passes
set_option maxRecDepth 20000 in
theorem ggX3_act_X3_pass : GoodIn wsX3_act wsX3_pass := goodIn_r _ [76, 8, 77, 9, 10, 11, 12, 13, 14, 28, 29, 30, 78, 79, 80, 6, 81, 19, 20, 21, 22, 23, 82, 83, 84, 85, 59, 61, 60, 31, 32, 86, 87, 88, 89, 37, 38, 39, 40, 41, 42, 43, 44, 45, 46, 47, 48, 49, 50, 51, 52, 53, 54, 90, 55, 56, 57, 58, 62, 91, 92, 93, 94, 95, 96, 97, 98, 99, 100, 101, 102, 103, 104] (by decide +kernel) (by decide +kernel)
set_option maxRecDepth 20000 in
theorem gX3_act_X3_pass : GoodIn wsX3_act (wsV RX3 42 RX3 yX3_pass wsX3_pass) := goodIn_app (goodIn_of _ (by decide +kernel)) ggX3_act_X3_pass
theorem dX3_act_0 : decode cX3_act 0 = .ok (.aload_n 0, 1) := by decide +kernel
theorem dX3_act_1 : decode cX3_act 1 = .ok (.iload_n 1, 1) := by decide +kernel
theorem dX3_act_2 : decode cX3_act 2 = .ok (.iload_n 2, 1) := by decide +kernel
theorem dX3_act_3 : decode cX3_act 3 = .ok (.invokevirtual 25, 3) := by decide +kernel
theorem dX3_act_6 : decode cX3_act 6 = .ok (.ifCond .eq 22, 3) := by decide +kernel
theorem dX3_act_9 : decode cX3_act 9 = .ok (.aload_n 0, 1) := by decide +kernel
theorem dX3_act_10 : decode cX3_act 10 = .ok (.iload_n 1, 1) := by decide +kernel
theorem dX3_act_11 : decode cX3_act 11 = .ok (.iload_n 2, 1) := by decide +kernel
theorem dX3_act_12 : decode cX3_act 12 = .ok (.invokevirtual 38, 3) := by decide +kernel
theorem dX3_act_15 : decode cX3_act 15 = .ok (.aload_n 0, 1) := by decide +kernel
theorem dX3_act_16 : decode cX3_act 16 = .ok (.dup, 1) := by decide +kernel
theorem dX3_act_17 : decode cX3_act 17 = .ok (.getfield 15, 3) := by decide +kernel
theorem dX3_act_20 : decode cX3_act 20 = .ok (.iconst 1, 1) := by decide +kernel
theorem dX3_act_21 : decode cX3_act 21 = .ok (.iadd, 1) := by decide +kernel
theorem dX3_act_22 : decode cX3_act 22 = .ok (.putfield 15, 3) := by decide +kernel
theorem dX3_act_25 : decode cX3_act 25 = .ok (.goto 64, 3) := by decide +kernel
theorem dX3_act_28 : decode cX3_act 28 = .ok (.aload_n 0, 1) := by decide +kernel
theorem dX3_act_29 : decode cX3_act 29 = .ok (.iload_n 1, 1) := by decide +kernel
theorem dX3_act_30 : decode cX3_act 30 = .ok (.iload_n 2, 1) := by decide +kernel
theorem dX3_act_31 : decode cX3_act 31 = .ok (.invokevirtual 29, 3) := by decide +kernel
theorem dX3_act_34 : decode cX3_act 34 = .ok (.ifCond .eq 22, 3) := by decide +kernel
theorem dX3_act_37 : decode cX3_act 37 = .ok (.aload_n 0, 1) := by decide +kernel
theorem dX3_act_38 : decode cX3_act 38 = .ok (.iload_n 1, 1) := by decide +kernel
theorem dX3_act_39 : decode cX3_act 39 = .ok (.iload_n 2, 1) := by decide +kernel
theorem dX3_act_40 : decode cX3_act 40 = .ok (.invokevirtual 38, 3) := by decide +kernel
theorem dX3_act_43 : decode cX3_act 43 = .ok (.aload_n 0, 1) := by decide +kernel
theorem dX3_act_44 : decode cX3_act 44 = .ok (.dup, 1) := by decide +kernel
theorem dX3_act_45 : decode cX3_act 45 = .ok (.getfield 19, 3) := by decide +kernel
theorem dX3_act_48 : decode cX3_act 48 = .ok (.iconst 1, 1) := by decide +kernel
theorem dX3_act_49 : decode cX3_act 49 = .ok (.iadd, 1) := by decide +kernel
theorem dX3_act_50 : decode cX3_act 50 = .ok (.putfield 19, 3) := by decide +kernel
theorem dX3_act_53 : decode cX3_act 53 = .ok (.goto 36, 3) := by decide +kernel
theorem dX3_act_56 : decode cX3_act 56 = .ok (.aload_n 0, 1) := by decide +kernel
theorem dX3_act_57 : decode cX3_act 57 = .ok (.iload_n 1, 1) := by decide +kernel
theorem dX3_act_58 : decode cX3_act 58 = .ok (.iload_n 2, 1) := by decide +kernel
theorem dX3_act_59 : decode cX3_act 59 = .ok (.invokevirtual 32, 3) := by decide +kernel
theorem dX3_act_62 : decode cX3_act 62 = .ok (.ifCond .eq 12, 3) := by decide +kernel
theorem dX3_act_65 : decode cX3_act 65 = .ok (.aload_n 0, 1) := by decide +kernel
theorem dX3_act_66 : decode cX3_act 66 = .ok (.iload_n 1, 1) := by decide +kernel
theorem dX3_act_67 : decode cX3_act 67 = .ok (.iload_n 2, 1) := by decide +kernel
theorem dX3_act_68 : decode cX3_act 68 = .ok (.invokevirtual 42, 3) := by decide +kernel
theorem dX3_act_71 : decode cX3_act 71 = .ok (.goto 18, 3) := by decide +kernel
theorem dX3_act_74 : decode cX3_act 74 = .ok (.aload_n 0, 1) := by decide +kernel
theorem dX3_act_75 : decode cX3_act 75 = .ok (.iload_n 2, 1) := by decide +kernel
theorem dX3_act_76 : decode cX3_act 76 = .ok (.iload_n 1, 1) := by decide +kernel
theorem dX3_act_77 : decode cX3_act 77 = .ok (.invokevirtual 32, 3) := by decide +kernel
theorem dX3_act_80 : decode cX3_act 80 = .ok (.ifCond .eq 9, 3) := by decide +kernel
theorem dX3_act_83 : decode cX3_act 83 = .ok (.aload_n 0, 1) := by decide +kernel
theorem dX3_act_84 : decode cX3_act 84 = .ok (.iload_n 2, 1) := by decide +kernel
theorem dX3_act_85 : decode cX3_act 85 = .ok (.iload_n 1, 1) := by decide +kernel
theorem dX3_act_86 : decode cX3_act 86 = .ok (.invokevirtual 42, 3) := by decide +kernel
theorem dX3_act_89 : decode cX3_act 89 = .ok (.return_, 1) := by decide +kernel
set_option maxRecDepth 20000 in
theorem ggX3_isBeta_X2_kindOf : GoodIn wsX3_isBeta wsX2_kindOf := goodIn_r _ [6, 7, 22, 23, 24, 25, 26, 27, 28, 29, 30, 31] (by decide +kernel) (by decide +kernel)
set_option maxRecDepth 20000 in
theorem gX3_isBeta_X2_kindOf : GoodIn wsX3_isBeta (wsV RX3 45 RX2 yX2_kindOf wsX2_kindOf) := goodIn_app (goodIn_of _ (by decide +kernel)) ggX3_isBeta_X2_kindOf
set_option maxRecDepth 20000 in
theorem ggX3_isBeta_X3_sameIndex : GoodIn wsX3_isBeta wsX3_sameIndex := goodIn_r _ [12, 1, 13, 14, 15, 5, 16, 17, 18, 19, 20, 21, 22, 23, 24, 25, 26, 27, 28, 29, 30, 31] (by decide +kernel) (by decide +kernel)
set_option maxRecDepth 20000 in
theorem gX3_isBeta_X3_sameIndex : GoodIn wsX3_isBeta (wsV RX3 51 RX3 yX3_sameIndex wsX3_sameIndex) := goodIn_app (goodIn_of _ (by decide +kernel)) ggX3_isBeta_X3_sameIndex
theorem dX3_isBeta_0 : decode cX3_isBeta 0 = .ok (.aload_n 0, 1) := by decide +kernel
theorem dX3_isBeta_1 : decode cX3_isBeta 1 = .ok (.getfield 9, 3) := by decide +kernel
theorem dX3_isBeta_4 : decode cX3_isBeta 4 = .ok (.iload_n 1, 1) := by decide +kernel
theorem dX3_isBeta_5 : decode cX3_isBeta 5 = .ok (.invokevirtual 45, 3) := by decide +kernel
theorem dX3_isBeta_8 : decode cX3_isBeta 8 = .ok (.istore_n 3, 1) := by decide +kernel
theorem dX3_isBeta_9 : decode cX3_isBeta 9 = .ok (.aload_n 0, 1) := by decide +kernel
theorem dX3_isBeta_10 : decode cX3_isBeta 10 = .ok (.getfield 9, 3) := by decide +kernel
theorem dX3_isBeta_13 : decode cX3_isBeta 13 = .ok (.iload_n 2, 1) := by decide +kernel
theorem dX3_isBeta_14 : decode cX3_isBeta 14 = .ok (.invokevirtual 45, 3) := by decide +kernel
theorem dX3_isBeta_17 : decode cX3_isBeta 17 = .ok (.istore 4, 2) := by decide +kernel
theorem dX3_isBeta_19 : decode cX3_isBeta 19 = .ok (.aload_n 0, 1) := by decide +kernel
theorem dX3_isBeta_20 : decode cX3_isBeta 20 = .ok (.iload_n 1, 1) := by decide +kernel
theorem dX3_isBeta_21 : decode cX3_isBeta 21 = .ok (.iload_n 2, 1) := by decide +kernel
theorem dX3_isBeta_22 : decode cX3_isBeta 22 = .ok (.invokevirtual 51, 3) := by decide +kernel
theorem dX3_isBeta_25 : decode cX3_isBeta 25 = .ok (.ifCond .eq 27, 3) := by decide +kernel
theorem dX3_isBeta_28 : decode cX3_isBeta 28 = .ok (.iload_n 3, 1) := by decide +kernel
theorem dX3_isBeta_29 : decode cX3_isBeta 29 = .ok (.ifCond .ne 9, 3) := by decide +kernel
theorem dX3_isBeta_32 : decode cX3_isBeta 32 = .ok (.iload 4, 2) := by decide +kernel
theorem dX3_isBeta_34 : decode cX3_isBeta 34 = .ok (.iconst 1, 1) := by decide +kernel
theorem dX3_isBeta_35 : decode cX3_isBeta 35 = .ok (.if_icmp .eq 13, 3) := by decide +kernel
theorem dX3_isBeta_38 : decode cX3_isBeta 38 = .ok (.iload_n 3, 1) := by decide +kernel
theorem dX3_isBeta_39 : decode cX3_isBeta 39 = .ok (.iconst 1, 1) := by decide +kernel
theorem dX3_isBeta_40 : decode cX3_isBeta 40 = .ok (.if_icmp .ne 12, 3) := by decide +kernel
theorem dX3_isBeta_43 : decode cX3_isBeta 43 = .ok (.iload 4, 2) := by decide +kernel
theorem dX3_isBeta_45 : decode cX3_isBeta 45 = .ok (.ifCond .ne 7, 3) := by decide +kernel
theorem dX3_isBeta_48 : decode cX3_isBeta 48 = .ok (.iconst 1, 1) := by decide +kernel
theorem dX3_isBeta_49 : decode cX3_isBeta 49 = .ok (.goto 4, 3) := by decide +kernel
theorem dX3_isBeta_52 : decode cX3_isBeta 52 = .ok (.iconst 0, 1) := by decide +kernel
theorem dX3_isBeta_53 : decode cX3_isBeta 53 = .ok (.ireturn, 1) := by decide +kernel
set_option maxRecDepth 20000 in
theorem ggX3_isAnnihilation_X2_kindOf : GoodIn wsX3_isAnnihilation wsX2_kindOf := goodIn_r _ [6, 7, 25, 26, 27, 28, 29, 30, 31, 32, 33, 34] (by decide +kernel) (by decide +kernel)
set_option maxRecDepth 20000 in
theorem gX3_isAnnihilation_X2_kindOf : GoodIn wsX3_isAnnihilation (wsV RX3 45 RX2 yX2_kindOf wsX2_kindOf) := goodIn_app (goodIn_of _ (by decide +kernel)) ggX3_isAnnihilation_X2_kindOf
set_option maxRecDepth 20000 in
theorem ggX3_isAnnihilation_X3_sameIndex : GoodIn wsX3_isAnnihilation wsX3_sameIndex := goodIn_r _ [12, 1, 13, 14, 15, 5, 16, 17, 21, 22, 23, 24, 25, 26, 27, 28, 29, 30, 31, 32, 33, 34] (by decide +kernel) (by decide +kernel)
set_option maxRecDepth 20000 in
theorem gX3_isAnnihilation_X3_sameIndex : GoodIn wsX3_isAnnihilation (wsV RX3 51 RX3 yX3_sameIndex wsX3_sameIndex) := goodIn_app (goodIn_of _ (by decide +kernel)) ggX3_isAnnihilation_X3_sameIndex
set_option maxRecDepth 20000 in
theorem ggX3_isAnnihilation_X7_isControl : GoodIn wsX3_isAnnihilation wsX7_isControl := goodIn_r _ [20] (by decide +kernel) (by decide +kernel)
set_option maxRecDepth 20000 in
theorem gX3_isAnnihilation_X7_isControl_n54 : GoodIn wsX3_isAnnihilation (wsX7_isControl) := ggX3_isAnnihilation_X7_isControl
theorem dX3_isAnnihilation_0 : decode cX3_isAnnihilation 0 = .ok (.aload_n 0, 1) := by decide +kernel
theorem dX3_isAnnihilation_1 : decode cX3_isAnnihilation 1 = .ok (.getfield 9, 3) := by decide +kernel
theorem dX3_isAnnihilation_4 : decode cX3_isAnnihilation 4 = .ok (.iload_n 1, 1) := by decide +kernel
theorem dX3_isAnnihilation_5 : decode cX3_isAnnihilation 5 = .ok (.invokevirtual 45, 3) := by decide +kernel
theorem dX3_isAnnihilation_8 : decode cX3_isAnnihilation 8 = .ok (.istore_n 3, 1) := by decide +kernel
theorem dX3_isAnnihilation_9 : decode cX3_isAnnihilation 9 = .ok (.aload_n 0, 1) := by decide +kernel
theorem dX3_isAnnihilation_10 : decode cX3_isAnnihilation 10 = .ok (.iload_n 1, 1) := by decide +kernel
theorem dX3_isAnnihilation_11 : decode cX3_isAnnihilation 11 = .ok (.iload_n 2, 1) := by decide +kernel
theorem dX3_isAnnihilation_12 : decode cX3_isAnnihilation 12 = .ok (.invokevirtual 51, 3) := by decide +kernel
theorem dX3_isAnnihilation_15 : decode cX3_isAnnihilation 15 = .ok (.ifCond .eq 26, 3) := by decide +kernel
theorem dX3_isAnnihilation_18 : decode cX3_isAnnihilation 18 = .ok (.iload_n 3, 1) := by decide +kernel
theorem dX3_isAnnihilation_19 : decode cX3_isAnnihilation 19 = .ok (.aload_n 0, 1) := by decide +kernel
theorem dX3_isAnnihilation_20 : decode cX3_isAnnihilation 20 = .ok (.getfield 9, 3) := by decide +kernel
theorem dX3_isAnnihilation_23 : decode cX3_isAnnihilation 23 = .ok (.iload_n 2, 1) := by decide +kernel
theorem dX3_isAnnihilation_24 : decode cX3_isAnnihilation 24 = .ok (.invokevirtual 45, 3) := by decide +kernel
theorem dX3_isAnnihilation_27 : decode cX3_isAnnihilation 27 = .ok (.if_icmp .ne 14, 3) := by decide +kernel
theorem dX3_isAnnihilation_30 : decode cX3_isAnnihilation 30 = .ok (.iload_n 3, 1) := by decide +kernel
theorem dX3_isAnnihilation_31 : decode cX3_isAnnihilation 31 = .ok (.invokestatic 54, 3) := by decide +kernel
theorem dX3_isAnnihilation_34 : decode cX3_isAnnihilation 34 = .ok (.ifCond .eq 7, 3) := by decide +kernel
theorem dX3_isAnnihilation_37 : decode cX3_isAnnihilation 37 = .ok (.iconst 1, 1) := by decide +kernel
theorem dX3_isAnnihilation_38 : decode cX3_isAnnihilation 38 = .ok (.goto 4, 3) := by decide +kernel
theorem dX3_isAnnihilation_41 : decode cX3_isAnnihilation 41 = .ok (.iconst 0, 1) := by decide +kernel
theorem dX3_isAnnihilation_42 : decode cX3_isAnnihilation 42 = .ok (.ireturn, 1) := by decide +kernel
set_option maxRecDepth 20000 in
theorem ggX3_sameIndex_X2_indexOf : GoodIn wsX3_sameIndex wsX2_indexOf := goodIn_r _ [6, 7, 12, 13, 14, 15, 16, 17, 18, 19, 20, 21] (by decide +kernel) (by decide +kernel)
set_option maxRecDepth 20000 in
theorem gX3_sameIndex_X2_indexOf : GoodIn wsX3_sameIndex (wsV RX3 58 RX2 yX2_indexOf wsX2_indexOf) := goodIn_app (goodIn_of _ (by decide +kernel)) ggX3_sameIndex_X2_indexOf
theorem dX3_sameIndex_0 : decode cX3_sameIndex 0 = .ok (.aload_n 0, 1) := by decide +kernel
theorem dX3_sameIndex_1 : decode cX3_sameIndex 1 = .ok (.getfield 9, 3) := by decide +kernel
theorem dX3_sameIndex_4 : decode cX3_sameIndex 4 = .ok (.iload_n 1, 1) := by decide +kernel
theorem dX3_sameIndex_5 : decode cX3_sameIndex 5 = .ok (.invokevirtual 58, 3) := by decide +kernel
theorem dX3_sameIndex_8 : decode cX3_sameIndex 8 = .ok (.aload_n 0, 1) := by decide +kernel
theorem dX3_sameIndex_9 : decode cX3_sameIndex 9 = .ok (.getfield 9, 3) := by decide +kernel
theorem dX3_sameIndex_12 : decode cX3_sameIndex 12 = .ok (.iload_n 2, 1) := by decide +kernel
theorem dX3_sameIndex_13 : decode cX3_sameIndex 13 = .ok (.invokevirtual 58, 3) := by decide +kernel
theorem dX3_sameIndex_16 : decode cX3_sameIndex 16 = .ok (.if_icmp .ne 7, 3) := by decide +kernel
theorem dX3_sameIndex_19 : decode cX3_sameIndex 19 = .ok (.iconst 1, 1) := by decide +kernel
theorem dX3_sameIndex_20 : decode cX3_sameIndex 20 = .ok (.goto 4, 3) := by decide +kernel
theorem dX3_sameIndex_23 : decode cX3_sameIndex 23 = .ok (.iconst 0, 1) := by decide +kernel
theorem dX3_sameIndex_24 : decode cX3_sameIndex 24 = .ok (.ireturn, 1) := by decide +kernel
set_option maxRecDepth 20000 in
theorem ggX3_passes_X2_kindOf : GoodIn wsX3_passes wsX2_kindOf := goodIn_r _ [6, 7, 20, 21, 22, 23, 24, 25, 26, 27, 28, 29] (by decide +kernel) (by decide +kernel)
set_option maxRecDepth 20000 in
theorem gX3_passes_X2_kindOf : GoodIn wsX3_passes (wsV RX3 45 RX2 yX2_kindOf wsX2_kindOf) := goodIn_app (goodIn_of _ (by decide +kernel)) ggX3_passes_X2_kindOf
set_option maxRecDepth 20000 in
theorem ggX3_passes_X7_isControl : GoodIn wsX3_passes wsX7_isControl := goodIn_r _ [10] (by decide +kernel) (by decide +kernel)
set_option maxRecDepth 20000 in
theorem gX3_passes_X7_isControl_n54 : GoodIn wsX3_passes (wsX7_isControl) := ggX3_passes_X7_isControl
set_option maxRecDepth 20000 in
theorem ggX3_passes_X2_indexOf : GoodIn wsX3_passes wsX2_indexOf := goodIn_r _ [14, 15, 20, 21, 22, 23, 24, 25, 26, 27, 28, 29] (by decide +kernel) (by decide +kernel)
set_option maxRecDepth 20000 in
theorem gX3_passes_X2_indexOf : GoodIn wsX3_passes (wsV RX3 58 RX2 yX2_indexOf wsX2_indexOf) := goodIn_app (goodIn_of _ (by decide +kernel)) ggX3_passes_X2_indexOf
theorem dX3_passes_0 : decode cX3_passes 0 = .ok (.aload_n 0, 1) := by decide +kernel
theorem dX3_passes_1 : decode cX3_passes 1 = .ok (.getfield 9, 3) := by decide +kernel
theorem dX3_passes_4 : decode cX3_passes 4 = .ok (.iload_n 1, 1) := by decide +kernel
theorem dX3_passes_5 : decode cX3_passes 5 = .ok (.invokevirtual 45, 3) := by decide +kernel
theorem dX3_passes_8 : decode cX3_passes 8 = .ok (.invokestatic 54, 3) := by decide +kernel
theorem dX3_passes_11 : decode cX3_passes 11 = .ok (.ifCond .eq 26, 3) := by decide +kernel
theorem dX3_passes_14 : decode cX3_passes 14 = .ok (.aload_n 0, 1) := by decide +kernel
theorem dX3_passes_15 : decode cX3_passes 15 = .ok (.getfield 9, 3) := by decide +kernel
theorem dX3_passes_18 : decode cX3_passes 18 = .ok (.iload_n 1, 1) := by decide +kernel
theorem dX3_passes_19 : decode cX3_passes 19 = .ok (.invokevirtual 58, 3) := by decide +kernel
theorem dX3_passes_22 : decode cX3_passes 22 = .ok (.aload_n 0, 1) := by decide +kernel
theorem dX3_passes_23 : decode cX3_passes 23 = .ok (.getfield 9, 3) := by decide +kernel
theorem dX3_passes_26 : decode cX3_passes 26 = .ok (.iload_n 2, 1) := by decide +kernel
theorem dX3_passes_27 : decode cX3_passes 27 = .ok (.invokevirtual 58, 3) := by decide +kernel
theorem dX3_passes_30 : decode cX3_passes 30 = .ok (.if_icmp .ge 7, 3) := by decide +kernel
theorem dX3_passes_33 : decode cX3_passes 33 = .ok (.iconst 1, 1) := by decide +kernel
theorem dX3_passes_34 : decode cX3_passes 34 = .ok (.goto 4, 3) := by decide +kernel
theorem dX3_passes_37 : decode cX3_passes 37 = .ok (.iconst 0, 1) := by decide +kernel
theorem dX3_passes_38 : decode cX3_passes 38 = .ok (.ireturn, 1) := by decide +kernel
set_option maxRecDepth 20000 in
theorem ggX3_hasRoom_X2_kindOf : GoodIn wsX3_hasRoom wsX2_kindOf := goodIn_r _ [6, 7, 30, 31, 32, 33, 34, 35, 36, 37, 38, 39] (by decide +kernel) (by decide +kernel)
set_option maxRecDepth 20000 in
theorem gX3_hasRoom_X2_kindOf : GoodIn wsX3_hasRoom (wsV RX3 45 RX2 yX2_kindOf wsX2_kindOf) := goodIn_app (goodIn_of _ (by decide +kernel)) ggX3_hasRoom_X2_kindOf
set_option maxRecDepth 20000 in
theorem ggX3_hasRoom_X2_size : GoodIn wsX3_hasRoom wsX2_size := goodIn_r _ [11, 12, 30, 31, 32, 33, 34, 35, 36, 37, 38, 39] (by decide +kernel) (by decide +kernel)
set_option maxRecDepth 20000 in
theorem gX3_hasRoom_X2_size : GoodIn wsX3_hasRoom (wsV RX3 61 RX2 yX2_size wsX2_size) := goodIn_app (goodIn_of _ (by decide +kernel)) ggX3_hasRoom_X2_size
set_option maxRecDepth 20000 in
theorem ggX3_hasRoom_X7_otherPorts : GoodIn wsX3_hasRoom wsX7_otherPorts := goodIn_r _ [15] (by decide +kernel) (by decide +kernel)
set_option maxRecDepth 20000 in
theorem gX3_hasRoom_X7_otherPorts_n65 : GoodIn wsX3_hasRoom (wsX7_otherPorts) := ggX3_hasRoom_X7_otherPorts
set_option maxRecDepth 20000 in
theorem ggX3_hasRoom_X3_passedIndex : GoodIn wsX3_hasRoom wsX3_passedIndex := goodIn_r _ [20, 1, 21, 22, 23, 5, 24, 25, 2, 3, 4, 6, 7, 26, 27, 28, 29, 30, 31, 32, 33, 34, 35, 36, 37, 38, 39] (by decide +kernel) (by decide +kernel)
set_option maxRecDepth 20000 in
theorem gX3_hasRoom_X3_passedIndex : GoodIn wsX3_hasRoom (wsV RX3 68 RX3 yX3_passedIndex wsX3_passedIndex) := goodIn_app (goodIn_of _ (by decide +kernel)) ggX3_hasRoom_X3_passedIndex
theorem dX3_hasRoom_0 : decode cX3_hasRoom 0 = .ok (.aload_n 0, 1) := by decide +kernel
theorem dX3_hasRoom_1 : decode cX3_hasRoom 1 = .ok (.getfield 9, 3) := by decide +kernel
theorem dX3_hasRoom_4 : decode cX3_hasRoom 4 = .ok (.iload_n 1, 1) := by decide +kernel
theorem dX3_hasRoom_5 : decode cX3_hasRoom 5 = .ok (.invokevirtual 45, 3) := by decide +kernel
theorem dX3_hasRoom_8 : decode cX3_hasRoom 8 = .ok (.iconst 2, 1) := by decide +kernel
theorem dX3_hasRoom_9 : decode cX3_hasRoom 9 = .ok (.if_icmp .ne 7, 3) := by decide +kernel
theorem dX3_hasRoom_12 : decode cX3_hasRoom 12 = .ok (.iconst 2, 1) := by decide +kernel
theorem dX3_hasRoom_13 : decode cX3_hasRoom 13 = .ok (.goto 4, 3) := by decide +kernel
theorem dX3_hasRoom_16 : decode cX3_hasRoom 16 = .ok (.iconst 1, 1) := by decide +kernel
theorem dX3_hasRoom_17 : decode cX3_hasRoom 17 = .ok (.istore_n 3, 1) := by decide +kernel
theorem dX3_hasRoom_18 : decode cX3_hasRoom 18 = .ok (.aload_n 0, 1) := by decide +kernel
theorem dX3_hasRoom_19 : decode cX3_hasRoom 19 = .ok (.getfield 9, 3) := by decide +kernel
theorem dX3_hasRoom_22 : decode cX3_hasRoom 22 = .ok (.invokevirtual 61, 3) := by decide +kernel
theorem dX3_hasRoom_25 : decode cX3_hasRoom 25 = .ok (.iconst 2, 1) := by decide +kernel
theorem dX3_hasRoom_26 : decode cX3_hasRoom 26 = .ok (.isub, 1) := by decide +kernel
theorem dX3_hasRoom_27 : decode cX3_hasRoom 27 = .ok (.iload_n 3, 1) := by decide +kernel
theorem dX3_hasRoom_28 : decode cX3_hasRoom 28 = .ok (.iadd, 1) := by decide +kernel
theorem dX3_hasRoom_29 : decode cX3_hasRoom 29 = .ok (.aload_n 0, 1) := by decide +kernel
theorem dX3_hasRoom_30 : decode cX3_hasRoom 30 = .ok (.getfield 9, 3) := by decide +kernel
theorem dX3_hasRoom_33 : decode cX3_hasRoom 33 = .ok (.iload_n 2, 1) := by decide +kernel
theorem dX3_hasRoom_34 : decode cX3_hasRoom 34 = .ok (.invokevirtual 45, 3) := by decide +kernel
theorem dX3_hasRoom_37 : decode cX3_hasRoom 37 = .ok (.invokestatic 65, 3) := by decide +kernel
theorem dX3_hasRoom_40 : decode cX3_hasRoom 40 = .ok (.iadd, 1) := by decide +kernel
theorem dX3_hasRoom_41 : decode cX3_hasRoom 41 = .ok (.istore 4, 2) := by decide +kernel
theorem dX3_hasRoom_43 : decode cX3_hasRoom 43 = .ok (.iload 4, 2) := by decide +kernel
theorem dX3_hasRoom_45 : decode cX3_hasRoom 45 = .ok (.sipush 3000, 3) := by decide +kernel
theorem dX3_hasRoom_48 : decode cX3_hasRoom 48 = .ok (.if_icmp .gt 18, 3) := by decide +kernel
theorem dX3_hasRoom_51 : decode cX3_hasRoom 51 = .ok (.aload_n 0, 1) := by decide +kernel
theorem dX3_hasRoom_52 : decode cX3_hasRoom 52 = .ok (.iload_n 1, 1) := by decide +kernel
theorem dX3_hasRoom_53 : decode cX3_hasRoom 53 = .ok (.iload_n 2, 1) := by decide +kernel
theorem dX3_hasRoom_54 : decode cX3_hasRoom 54 = .ok (.invokevirtual 68, 3) := by decide +kernel
theorem dX3_hasRoom_57 : decode cX3_hasRoom 57 = .ok (.bipush 63, 2) := by decide +kernel
theorem dX3_hasRoom_59 : decode cX3_hasRoom 59 = .ok (.if_icmp .gt 7, 3) := by decide +kernel
theorem dX3_hasRoom_62 : decode cX3_hasRoom 62 = .ok (.iconst 1, 1) := by decide +kernel
theorem dX3_hasRoom_63 : decode cX3_hasRoom 63 = .ok (.goto 4, 3) := by decide +kernel
theorem dX3_hasRoom_66 : decode cX3_hasRoom 66 = .ok (.iconst 0, 1) := by decide +kernel
theorem dX3_hasRoom_67 : decode cX3_hasRoom 67 = .ok (.ireturn, 1) := by decide +kernel
set_option maxRecDepth 20000 in
theorem ggX3_passedIndex_X2_indexOf : GoodIn wsX3_passedIndex wsX2_indexOf := goodIn_r _ [6, 7, 17, 18, 19, 20, 21, 22, 23, 24, 25, 26] (by decide +kernel) (by decide +kernel)
set_option maxRecDepth 20000 in
theorem gX3_passedIndex_X2_indexOf : GoodIn wsX3_passedIndex (wsV RX3 58 RX2 yX2_indexOf wsX2_indexOf) := goodIn_app (goodIn_of _ (by decide +kernel)) ggX3_passedIndex_X2_indexOf
set_option maxRecDepth 20000 in
theorem ggX3_passedIndex_X2_kindOf : GoodIn wsX3_passedIndex wsX2_kindOf := goodIn_r _ [11, 12, 17, 18, 19, 20, 21, 22, 23, 24, 25, 26] (by decide +kernel) (by decide +kernel)
set_option maxRecDepth 20000 in
theorem gX3_passedIndex_X2_kindOf : GoodIn wsX3_passedIndex (wsV RX3 45 RX2 yX2_kindOf wsX2_kindOf) := goodIn_app (goodIn_of _ (by decide +kernel)) ggX3_passedIndex_X2_kindOf
theorem dX3_passedIndex_0 : decode cX3_passedIndex 0 = .ok (.aload_n 0, 1) := by decide +kernel
theorem dX3_passedIndex_1 : decode cX3_passedIndex 1 = .ok (.getfield 9, 3) := by decide +kernel
theorem dX3_passedIndex_4 : decode cX3_passedIndex 4 = .ok (.iload_n 2, 1) := by decide +kernel
theorem dX3_passedIndex_5 : decode cX3_passedIndex 5 = .ok (.invokevirtual 58, 3) := by decide +kernel
theorem dX3_passedIndex_8 : decode cX3_passedIndex 8 = .ok (.istore_n 3, 1) := by decide +kernel
theorem dX3_passedIndex_9 : decode cX3_passedIndex 9 = .ok (.aload_n 0, 1) := by decide +kernel
theorem dX3_passedIndex_10 : decode cX3_passedIndex 10 = .ok (.getfield 9, 3) := by decide +kernel
theorem dX3_passedIndex_13 : decode cX3_passedIndex 13 = .ok (.iload_n 1, 1) := by decide +kernel
theorem dX3_passedIndex_14 : decode cX3_passedIndex 14 = .ok (.invokevirtual 45, 3) := by decide +kernel
theorem dX3_passedIndex_17 : decode cX3_passedIndex 17 = .ok (.lookupswitch 35 #[(3, 27), (4, 31)], 27) := by decide +kernel
theorem dX3_passedIndex_44 : decode cX3_passedIndex 44 = .ok (.iload_n 3, 1) := by decide +kernel
theorem dX3_passedIndex_45 : decode cX3_passedIndex 45 = .ok (.iconst 1, 1) := by decide +kernel
theorem dX3_passedIndex_46 : decode cX3_passedIndex 46 = .ok (.isub, 1) := by decide +kernel
theorem dX3_passedIndex_47 : decode cX3_passedIndex 47 = .ok (.ireturn, 1) := by decide +kernel
theorem dX3_passedIndex_48 : decode cX3_passedIndex 48 = .ok (.iload_n 3, 1) := by decide +kernel
theorem dX3_passedIndex_49 : decode cX3_passedIndex 49 = .ok (.iconst 1, 1) := by decide +kernel
theorem dX3_passedIndex_50 : decode cX3_passedIndex 50 = .ok (.iadd, 1) := by decide +kernel
theorem dX3_passedIndex_51 : decode cX3_passedIndex 51 = .ok (.ireturn, 1) := by decide +kernel
theorem dX3_passedIndex_52 : decode cX3_passedIndex 52 = .ok (.iload_n 3, 1) := by decide +kernel
theorem dX3_passedIndex_53 : decode cX3_passedIndex 53 = .ok (.ireturn, 1) := by decide +kernel
set_option maxRecDepth 20000 in
theorem ggX3_joinPorts_X2_kindOf : GoodIn wsX3_joinPorts wsX2_kindOf := goodIn_r _ [6, 7, 47, 48, 49, 50, 51, 52, 53, 54, 55, 56] (by decide +kernel) (by decide +kernel)
set_option maxRecDepth 20000 in
theorem gX3_joinPorts_X2_kindOf : GoodIn wsX3_joinPorts (wsV RX3 45 RX2 yX2_kindOf wsX2_kindOf) := goodIn_app (goodIn_of _ (by decide +kernel)) ggX3_joinPorts_X2_kindOf
set_option maxRecDepth 20000 in
theorem ggX3_joinPorts_X7_otherPorts : GoodIn wsX3_joinPorts wsX7_otherPorts := goodIn_r _ [10] (by decide +kernel) (by decide +kernel)
set_option maxRecDepth 20000 in
theorem gX3_joinPorts_X7_otherPorts_n65 : GoodIn wsX3_joinPorts (wsX7_otherPorts) := ggX3_joinPorts_X7_otherPorts
set_option maxRecDepth 20000 in
theorem ggX3_joinPorts_X7_portOf : GoodIn wsX3_joinPorts wsX7_portOf := goodIn_r _ [12] (by decide +kernel) (by decide +kernel)
set_option maxRecDepth 20000 in
theorem gX3_joinPorts_X7_portOf_n72 : GoodIn wsX3_joinPorts (wsX7_portOf) := ggX3_joinPorts_X7_portOf
set_option maxRecDepth 20000 in
theorem ggX3_joinPorts_X2_join : GoodIn wsX3_joinPorts wsX2_join := goodIn_r _ [16, 17, 18, 19, 5, 20, 21, 22, 23, 24, 25, 26, 9, 27, 28, 29, 30, 31, 32, 7, 33, 34, 47, 48, 49, 50, 51, 52, 53, 54, 55, 56] (by decide +kernel) (by decide +kernel)
set_option maxRecDepth 20000 in
theorem gX3_joinPorts_X2_join : GoodIn wsX3_joinPorts (wsV RX3 75 RX2 yX2_join wsX2_join) := goodIn_app (goodIn_of _ (by decide +kernel)) ggX3_joinPorts_X2_join
set_option maxRecDepth 20000 in
theorem ggX3_joinPorts_X2_discard : GoodIn wsX3_joinPorts wsX2_discard := goodIn_r _ [38, 39, 40, 7, 41, 42, 3, 4, 5, 6, 47, 48, 49, 50, 51, 52, 53, 54, 55, 56] (by decide +kernel) (by decide +kernel)
set_option maxRecDepth 20000 in
theorem gX3_joinPorts_X2_discard : GoodIn wsX3_joinPorts (wsV RX3 78 RX2 yX2_discard wsX2_discard) := goodIn_app (goodIn_of _ (by decide +kernel)) ggX3_joinPorts_X2_discard
theorem dX3_joinPorts_0 : decode cX3_joinPorts 0 = .ok (.aload_n 0, 1) := by decide +kernel
theorem dX3_joinPorts_1 : decode cX3_joinPorts 1 = .ok (.getfield 9, 3) := by decide +kernel
theorem dX3_joinPorts_4 : decode cX3_joinPorts 4 = .ok (.iload_n 1, 1) := by decide +kernel
theorem dX3_joinPorts_5 : decode cX3_joinPorts 5 = .ok (.invokevirtual 45, 3) := by decide +kernel
theorem dX3_joinPorts_8 : decode cX3_joinPorts 8 = .ok (.invokestatic 65, 3) := by decide +kernel
theorem dX3_joinPorts_11 : decode cX3_joinPorts 11 = .ok (.istore_n 3, 1) := by decide +kernel
theorem dX3_joinPorts_12 : decode cX3_joinPorts 12 = .ok (.iconst 1, 1) := by decide +kernel
theorem dX3_joinPorts_13 : decode cX3_joinPorts 13 = .ok (.istore 4, 2) := by decide +kernel
theorem dX3_joinPorts_15 : decode cX3_joinPorts 15 = .ok (.iload 4, 2) := by decide +kernel
theorem dX3_joinPorts_17 : decode cX3_joinPorts 17 = .ok (.iload_n 3, 1) := by decide +kernel
theorem dX3_joinPorts_18 : decode cX3_joinPorts 18 = .ok (.if_icmp .gt 28, 3) := by decide +kernel
theorem dX3_joinPorts_21 : decode cX3_joinPorts 21 = .ok (.aload_n 0, 1) := by decide +kernel
theorem dX3_joinPorts_22 : decode cX3_joinPorts 22 = .ok (.getfield 9, 3) := by decide +kernel
theorem dX3_joinPorts_25 : decode cX3_joinPorts 25 = .ok (.iload_n 1, 1) := by decide +kernel
theorem dX3_joinPorts_26 : decode cX3_joinPorts 26 = .ok (.iload 4, 2) := by decide +kernel
theorem dX3_joinPorts_28 : decode cX3_joinPorts 28 = .ok (.invokestatic 72, 3) := by decide +kernel
theorem dX3_joinPorts_31 : decode cX3_joinPorts 31 = .ok (.iload_n 2, 1) := by decide +kernel
theorem dX3_joinPorts_32 : decode cX3_joinPorts 32 = .ok (.iload 4, 2) := by decide +kernel
theorem dX3_joinPorts_34 : decode cX3_joinPorts 34 = .ok (.invokestatic 72, 3) := by decide +kernel
theorem dX3_joinPorts_37 : decode cX3_joinPorts 37 = .ok (.invokevirtual 75, 3) := by decide +kernel
theorem dX3_joinPorts_40 : decode cX3_joinPorts 40 = .ok (.iinc 4 1, 3) := by decide +kernel
theorem dX3_joinPorts_43 : decode cX3_joinPorts 43 = .ok (.goto (-28), 3) := by decide +kernel
theorem dX3_joinPorts_46 : decode cX3_joinPorts 46 = .ok (.aload_n 0, 1) := by decide +kernel
theorem dX3_joinPorts_47 : decode cX3_joinPorts 47 = .ok (.getfield 9, 3) := by decide +kernel
theorem dX3_joinPorts_50 : decode cX3_joinPorts 50 = .ok (.iload_n 1, 1) := by decide +kernel
theorem dX3_joinPorts_51 : decode cX3_joinPorts 51 = .ok (.invokevirtual 78, 3) := by decide +kernel
theorem dX3_joinPorts_54 : decode cX3_joinPorts 54 = .ok (.aload_n 0, 1) := by decide +kernel
theorem dX3_joinPorts_55 : decode cX3_joinPorts 55 = .ok (.getfield 9, 3) := by decide +kernel
theorem dX3_joinPorts_58 : decode cX3_joinPorts 58 = .ok (.iload_n 2, 1) := by decide +kernel
theorem dX3_joinPorts_59 : decode cX3_joinPorts 59 = .ok (.invokevirtual 78, 3) := by decide +kernel
theorem dX3_joinPorts_62 : decode cX3_joinPorts 62 = .ok (.return_, 1) := by decide +kernel
set_option maxRecDepth 20000 in
theorem ggX3_pass_X2_kindOf : GoodIn wsX3_pass wsX2_kindOf := goodIn_r _ [7, 8, 63, 64, 65, 66, 67, 68, 69, 70, 71, 72] (by decide +kernel) (by decide +kernel)
set_option maxRecDepth 20000 in
theorem gX3_pass_X2_kindOf : GoodIn wsX3_pass (wsV RX3 45 RX2 yX2_kindOf wsX2_kindOf) := goodIn_app (goodIn_of _ (by decide +kernel)) ggX3_pass_X2_kindOf
set_option maxRecDepth 20000 in
theorem ggX3_pass_X7_otherPorts : GoodIn wsX3_pass wsX7_otherPorts := goodIn_r _ [11] (by decide +kernel) (by decide +kernel)
set_option maxRecDepth 20000 in
theorem gX3_pass_X7_otherPorts_n65 : GoodIn wsX3_pass (wsX7_otherPorts) := ggX3_pass_X7_otherPorts
set_option maxRecDepth 20000 in
theorem ggX3_pass_X3_passedIndex : GoodIn wsX3_pass wsX3_passedIndex := goodIn_r _ [16, 1, 17, 18, 19, 6, 20, 21, 3, 4, 5, 7, 8, 59, 60, 61, 62, 63, 64, 65, 66, 67, 68, 69, 70, 71, 72] (by decide +kernel) (by decide +kernel)
set_option maxRecDepth 20000 in
theorem gX3_pass_X3_passedIndex : GoodIn wsX3_pass (wsV RX3 68 RX3 yX3_passedIndex wsX3_passedIndex) := goodIn_app (goodIn_of _ (by decide +kernel)) ggX3_pass_X3_passedIndex
set_option maxRecDepth 20000 in
theorem ggX3_pass_X2_make : GoodIn wsX3_pass wsX2_make := goodIn_r _ [25, 26, 27, 8, 21, 28, 63, 64, 65, 66, 67, 68, 69, 70, 71, 72] (by decide +kernel) (by decide +kernel)
set_option maxRecDepth 20000 in
theorem gX3_pass_X2_make : GoodIn wsX3_pass (wsV RX3 82 RX2 yX2_make wsX2_make) := goodIn_app (goodIn_of _ (by decide +kernel)) ggX3_pass_X2_make
set_option maxRecDepth 20000 in
theorem ggX3_pass_X7_portOf : GoodIn wsX3_pass wsX7_portOf := goodIn_r _ [30] (by decide +kernel) (by decide +kernel)
set_option maxRecDepth 20000 in
theorem gX3_pass_X7_portOf_n72 : GoodIn wsX3_pass (wsX7_portOf) := ggX3_pass_X7_portOf
set_option maxRecDepth 20000 in
theorem ggX3_pass_X2_replace : GoodIn wsX3_pass wsX2_replace := goodIn_r _ [34, 35, 36, 37, 6, 38, 39, 40, 41, 42, 43, 44, 10, 45, 46, 47, 48, 49, 50, 8, 51, 52, 63, 64, 65, 66, 67, 68, 69, 70, 71, 72] (by decide +kernel) (by decide +kernel)
set_option maxRecDepth 20000 in
theorem gX3_pass_X2_replace : GoodIn wsX3_pass (wsV RX3 85 RX2 yX2_replace wsX2_replace) := goodIn_app (goodIn_of _ (by decide +kernel)) ggX3_pass_X2_replace
set_option maxRecDepth 20000 in
theorem ggX3_pass_X2_indexOf : GoodIn wsX3_pass wsX2_indexOf := goodIn_r _ [20, 21, 63, 64, 65, 66, 67, 68, 69, 70, 71, 72] (by decide +kernel) (by decide +kernel)
set_option maxRecDepth 20000 in
theorem gX3_pass_X2_indexOf : GoodIn wsX3_pass (wsV RX3 58 RX2 yX2_indexOf wsX2_indexOf) := goodIn_app (goodIn_of _ (by decide +kernel)) ggX3_pass_X2_indexOf
set_option maxRecDepth 20000 in
theorem ggX3_pass_X2_link : GoodIn wsX3_pass wsX2_link := goodIn_r _ [43, 39, 44, 10, 45, 46, 47, 48, 6, 49, 50, 8, 51, 52, 63, 64, 65, 66, 67, 68, 69, 70, 71, 72] (by decide +kernel) (by decide +kernel)
set_option maxRecDepth 20000 in
theorem gX3_pass_X2_link : GoodIn wsX3_pass (wsV RX3 88 RX2 yX2_link wsX2_link) := goodIn_app (goodIn_of _ (by decide +kernel)) ggX3_pass_X2_link
set_option maxRecDepth 20000 in
theorem ggX3_pass_X2_discard : GoodIn wsX3_pass wsX2_discard := goodIn_r _ [57, 26, 28, 8, 27, 58, 4, 5, 6, 7, 63, 64, 65, 66, 67, 68, 69, 70, 71, 72] (by decide +kernel) (by decide +kernel)
set_option maxRecDepth 20000 in
theorem gX3_pass_X2_discard : GoodIn wsX3_pass (wsV RX3 78 RX2 yX2_discard wsX2_discard) := goodIn_app (goodIn_of _ (by decide +kernel)) ggX3_pass_X2_discard
theorem dX3_pass_0 : decode cX3_pass 0 = .ok (.aload_n 0, 1) := by decide +kernel
theorem dX3_pass_1 : decode cX3_pass 1 = .ok (.getfield 9, 3) := by decide +kernel
theorem dX3_pass_4 : decode cX3_pass 4 = .ok (.iload_n 2, 1) := by decide +kernel
theorem dX3_pass_5 : decode cX3_pass 5 = .ok (.invokevirtual 45, 3) := by decide +kernel
theorem dX3_pass_8 : decode cX3_pass 8 = .ok (.istore_n 3, 1) := by decide +kernel
theorem dX3_pass_9 : decode cX3_pass 9 = .ok (.aload_n 0, 1) := by decide +kernel
theorem dX3_pass_10 : decode cX3_pass 10 = .ok (.getfield 9, 3) := by decide +kernel
theorem dX3_pass_13 : decode cX3_pass 13 = .ok (.iload_n 1, 1) := by decide +kernel
theorem dX3_pass_14 : decode cX3_pass 14 = .ok (.invokevirtual 45, 3) := by decide +kernel
theorem dX3_pass_17 : decode cX3_pass 17 = .ok (.istore 4, 2) := by decide +kernel
theorem dX3_pass_19 : decode cX3_pass 19 = .ok (.iload 4, 2) := by decide +kernel
theorem dX3_pass_21 : decode cX3_pass 21 = .ok (.invokestatic 65, 3) := by decide +kernel
theorem dX3_pass_24 : decode cX3_pass 24 = .ok (.istore 5, 2) := by decide +kernel
theorem dX3_pass_26 : decode cX3_pass 26 = .ok (.aload_n 0, 1) := by decide +kernel
theorem dX3_pass_27 : decode cX3_pass 27 = .ok (.getfield 9, 3) := by decide +kernel
theorem dX3_pass_30 : decode cX3_pass 30 = .ok (.iload_n 3, 1) := by decide +kernel
theorem dX3_pass_31 : decode cX3_pass 31 = .ok (.aload_n 0, 1) := by decide +kernel
theorem dX3_pass_32 : decode cX3_pass 32 = .ok (.iload_n 1, 1) := by decide +kernel
theorem dX3_pass_33 : decode cX3_pass 33 = .ok (.iload_n 2, 1) := by decide +kernel
theorem dX3_pass_34 : decode cX3_pass 34 = .ok (.invokevirtual 68, 3) := by decide +kernel
theorem dX3_pass_37 : decode cX3_pass 37 = .ok (.invokevirtual 82, 3) := by decide +kernel
theorem dX3_pass_40 : decode cX3_pass 40 = .ok (.istore 6, 2) := by decide +kernel
theorem dX3_pass_42 : decode cX3_pass 42 = .ok (.iload 5, 2) := by decide +kernel
theorem dX3_pass_44 : decode cX3_pass 44 = .ok (.iconst 2, 1) := by decide +kernel
theorem dX3_pass_45 : decode cX3_pass 45 = .ok (.if_icmp .ne 20, 3) := by decide +kernel
theorem dX3_pass_48 : decode cX3_pass 48 = .ok (.aload_n 0, 1) := by decide +kernel
theorem dX3_pass_49 : decode cX3_pass 49 = .ok (.getfield 9, 3) := by decide +kernel
theorem dX3_pass_52 : decode cX3_pass 52 = .ok (.iload_n 3, 1) := by decide +kernel
theorem dX3_pass_53 : decode cX3_pass 53 = .ok (.aload_n 0, 1) := by decide +kernel
theorem dX3_pass_54 : decode cX3_pass 54 = .ok (.iload_n 1, 1) := by decide +kernel
theorem dX3_pass_55 : decode cX3_pass 55 = .ok (.iload_n 2, 1) := by decide +kernel
theorem dX3_pass_56 : decode cX3_pass 56 = .ok (.invokevirtual 68, 3) := by decide +kernel
theorem dX3_pass_59 : decode cX3_pass 59 = .ok (.invokevirtual 82, 3) := by decide +kernel
theorem dX3_pass_62 : decode cX3_pass 62 = .ok (.goto 4, 3) := by decide +kernel
theorem dX3_pass_65 : decode cX3_pass 65 = .ok (.iconst (-1), 1) := by decide +kernel
theorem dX3_pass_66 : decode cX3_pass 66 = .ok (.istore 7, 2) := by decide +kernel
theorem dX3_pass_68 : decode cX3_pass 68 = .ok (.aload_n 0, 1) := by decide +kernel
theorem dX3_pass_69 : decode cX3_pass 69 = .ok (.getfield 9, 3) := by decide +kernel
theorem dX3_pass_72 : decode cX3_pass 72 = .ok (.iload_n 1, 1) := by decide +kernel
theorem dX3_pass_73 : decode cX3_pass 73 = .ok (.iconst 1, 1) := by decide +kernel
theorem dX3_pass_74 : decode cX3_pass 74 = .ok (.invokestatic 72, 3) := by decide +kernel
theorem dX3_pass_77 : decode cX3_pass 77 = .ok (.iload 6, 2) := by decide +kernel
theorem dX3_pass_79 : decode cX3_pass 79 = .ok (.iconst 0, 1) := by decide +kernel
theorem dX3_pass_80 : decode cX3_pass 80 = .ok (.invokestatic 72, 3) := by decide +kernel
theorem dX3_pass_83 : decode cX3_pass 83 = .ok (.invokevirtual 85, 3) := by decide +kernel
theorem dX3_pass_86 : decode cX3_pass 86 = .ok (.iload 5, 2) := by decide +kernel
theorem dX3_pass_88 : decode cX3_pass 88 = .ok (.iconst 2, 1) := by decide +kernel
theorem dX3_pass_89 : decode cX3_pass 89 = .ok (.if_icmp .ne 21, 3) := by decide +kernel
theorem dX3_pass_92 : decode cX3_pass 92 = .ok (.aload_n 0, 1) := by decide +kernel
theorem dX3_pass_93 : decode cX3_pass 93 = .ok (.getfield 9, 3) := by decide +kernel
theorem dX3_pass_96 : decode cX3_pass 96 = .ok (.iload_n 1, 1) := by decide +kernel
theorem dX3_pass_97 : decode cX3_pass 97 = .ok (.iconst 2, 1) := by decide +kernel
theorem dX3_pass_98 : decode cX3_pass 98 = .ok (.invokestatic 72, 3) := by decide +kernel
theorem dX3_pass_101 : decode cX3_pass 101 = .ok (.iload 7, 2) := by decide +kernel
theorem dX3_pass_103 : decode cX3_pass 103 = .ok (.iconst 0, 1) := by decide +kernel
theorem dX3_pass_104 : decode cX3_pass 104 = .ok (.invokestatic 72, 3) := by decide +kernel
theorem dX3_pass_107 : decode cX3_pass 107 = .ok (.invokevirtual 85, 3) := by decide +kernel
theorem dX3_pass_110 : decode cX3_pass 110 = .ok (.iconst 1, 1) := by decide +kernel
theorem dX3_pass_111 : decode cX3_pass 111 = .ok (.istore 8, 2) := by decide +kernel
theorem dX3_pass_113 : decode cX3_pass 113 = .ok (.iload 8, 2) := by decide +kernel
theorem dX3_pass_115 : decode cX3_pass 115 = .ok (.iload_n 3, 1) := by decide +kernel
theorem dX3_pass_116 : decode cX3_pass 116 = .ok (.invokestatic 65, 3) := by decide +kernel
theorem dX3_pass_119 : decode cX3_pass 119 = .ok (.if_icmp .gt 93, 3) := by decide +kernel
theorem dX3_pass_122 : decode cX3_pass 122 = .ok (.aload_n 0, 1) := by decide +kernel
theorem dX3_pass_123 : decode cX3_pass 123 = .ok (.getfield 9, 3) := by decide +kernel
theorem dX3_pass_126 : decode cX3_pass 126 = .ok (.iload 4, 2) := by decide +kernel
theorem dX3_pass_128 : decode cX3_pass 128 = .ok (.aload_n 0, 1) := by decide +kernel
theorem dX3_pass_129 : decode cX3_pass 129 = .ok (.getfield 9, 3) := by decide +kernel
theorem dX3_pass_132 : decode cX3_pass 132 = .ok (.iload_n 1, 1) := by decide +kernel
theorem dX3_pass_133 : decode cX3_pass 133 = .ok (.invokevirtual 58, 3) := by decide +kernel
theorem dX3_pass_136 : decode cX3_pass 136 = .ok (.invokevirtual 82, 3) := by decide +kernel
theorem dX3_pass_139 : decode cX3_pass 139 = .ok (.istore 9, 2) := by decide +kernel
theorem dX3_pass_141 : decode cX3_pass 141 = .ok (.aload_n 0, 1) := by decide +kernel
theorem dX3_pass_142 : decode cX3_pass 142 = .ok (.getfield 9, 3) := by decide +kernel
theorem dX3_pass_145 : decode cX3_pass 145 = .ok (.iload_n 2, 1) := by decide +kernel
theorem dX3_pass_146 : decode cX3_pass 146 = .ok (.iload 8, 2) := by decide +kernel
theorem dX3_pass_148 : decode cX3_pass 148 = .ok (.invokestatic 72, 3) := by decide +kernel
theorem dX3_pass_151 : decode cX3_pass 151 = .ok (.iload 9, 2) := by decide +kernel
theorem dX3_pass_153 : decode cX3_pass 153 = .ok (.iconst 0, 1) := by decide +kernel
theorem dX3_pass_154 : decode cX3_pass 154 = .ok (.invokestatic 72, 3) := by decide +kernel
theorem dX3_pass_157 : decode cX3_pass 157 = .ok (.invokevirtual 85, 3) := by decide +kernel
theorem dX3_pass_160 : decode cX3_pass 160 = .ok (.aload_n 0, 1) := by decide +kernel
theorem dX3_pass_161 : decode cX3_pass 161 = .ok (.getfield 9, 3) := by decide +kernel
theorem dX3_pass_164 : decode cX3_pass 164 = .ok (.iload 6, 2) := by decide +kernel
theorem dX3_pass_166 : decode cX3_pass 166 = .ok (.iload 8, 2) := by decide +kernel
theorem dX3_pass_168 : decode cX3_pass 168 = .ok (.invokestatic 72, 3) := by decide +kernel
theorem dX3_pass_171 : decode cX3_pass 171 = .ok (.iload 9, 2) := by decide +kernel
theorem dX3_pass_173 : decode cX3_pass 173 = .ok (.iconst 1, 1) := by decide +kernel
theorem dX3_pass_174 : decode cX3_pass 174 = .ok (.invokestatic 72, 3) := by decide +kernel
theorem dX3_pass_177 : decode cX3_pass 177 = .ok (.invokevirtual 88, 3) := by decide +kernel
theorem dX3_pass_180 : decode cX3_pass 180 = .ok (.iload 5, 2) := by decide +kernel
theorem dX3_pass_182 : decode cX3_pass 182 = .ok (.iconst 2, 1) := by decide +kernel
theorem dX3_pass_183 : decode cX3_pass 183 = .ok (.if_icmp .ne 23, 3) := by decide +kernel
theorem dX3_pass_186 : decode cX3_pass 186 = .ok (.aload_n 0, 1) := by decide +kernel
theorem dX3_pass_187 : decode cX3_pass 187 = .ok (.getfield 9, 3) := by decide +kernel
theorem dX3_pass_190 : decode cX3_pass 190 = .ok (.iload 7, 2) := by decide +kernel
theorem dX3_pass_192 : decode cX3_pass 192 = .ok (.iload 8, 2) := by decide +kernel
theorem dX3_pass_194 : decode cX3_pass 194 = .ok (.invokestatic 72, 3) := by decide +kernel
theorem dX3_pass_197 : decode cX3_pass 197 = .ok (.iload 9, 2) := by decide +kernel
theorem dX3_pass_199 : decode cX3_pass 199 = .ok (.iconst 2, 1) := by decide +kernel
theorem dX3_pass_200 : decode cX3_pass 200 = .ok (.invokestatic 72, 3) := by decide +kernel
theorem dX3_pass_203 : decode cX3_pass 203 = .ok (.invokevirtual 88, 3) := by decide +kernel
theorem dX3_pass_206 : decode cX3_pass 206 = .ok (.iinc 8 1, 3) := by decide +kernel
theorem dX3_pass_209 : decode cX3_pass 209 = .ok (.goto (-96), 3) := by decide +kernel
theorem dX3_pass_212 : decode cX3_pass 212 = .ok (.aload_n 0, 1) := by decide +kernel
theorem dX3_pass_213 : decode cX3_pass 213 = .ok (.getfield 9, 3) := by decide +kernel
theorem dX3_pass_216 : decode cX3_pass 216 = .ok (.iload_n 1, 1) := by decide +kernel
theorem dX3_pass_217 : decode cX3_pass 217 = .ok (.invokevirtual 78, 3) := by decide +kernel
theorem dX3_pass_220 : decode cX3_pass 220 = .ok (.aload_n 0, 1) := by decide +kernel
theorem dX3_pass_221 : decode cX3_pass 221 = .ok (.getfield 9, 3) := by decide +kernel
theorem dX3_pass_224 : decode cX3_pass 224 = .ok (.iload_n 2, 1) := by decide +kernel
theorem dX3_pass_225 : decode cX3_pass 225 = .ok (.invokevirtual 78, 3) := by decide +kernel
theorem dX3_pass_228 : decode cX3_pass 228 = .ok (.aload_n 0, 1) := by decide +kernel
theorem dX3_pass_229 : decode cX3_pass 229 = .ok (.dup, 1) := by decide +kernel
theorem dX3_pass_230 : decode cX3_pass 230 = .ok (.getfield 22, 3) := by decide +kernel
theorem dX3_pass_233 : decode cX3_pass 233 = .ok (.iconst 1, 1) := by decide +kernel
theorem dX3_pass_234 : decode cX3_pass 234 = .ok (.iadd, 1) := by decide +kernel
theorem dX3_pass_235 : decode cX3_pass 235 = .ok (.putfield 22, 3) := by decide +kernel
theorem dX3_pass_238 : decode cX3_pass 238 = .ok (.return_, 1) := by decide +kernel
theorem dX4_init_0 : decode cX4_init 0 = .ok (.aload_n 0, 1) := by decide +kernel
theorem dX4_init_1 : decode cX4_init 1 = .ok (.invokespecial 3, 3) := by decide +kernel
theorem dX4_init_4 : decode cX4_init 4 = .ok (.aload_n 0, 1) := by decide +kernel
theorem dX4_init_5 : decode cX4_init 5 = .ok (.sipush 162, 3) := by decide +kernel
theorem dX4_init_8 : decode cX4_init 8 = .ok (.newarray .int, 2) := by decide +kernel
theorem dX4_init_10 : decode cX4_init 10 = .ok (.putfield 11, 3) := by decide +kernel
theorem dX4_init_13 : decode cX4_init 13 = .ok (.aload_n 0, 1) := by decide +kernel
theorem dX4_init_14 : decode cX4_init 14 = .ok (.sipush 162, 3) := by decide +kernel
theorem dX4_init_17 : decode cX4_init 17 = .ok (.newarray .int, 2) := by decide +kernel
theorem dX4_init_19 : decode cX4_init 19 = .ok (.putfield 15, 3) := by decide +kernel
theorem dX4_init_22 : decode cX4_init 22 = .ok (.aload_n 0, 1) := by decide +kernel
theorem dX4_init_23 : decode cX4_init 23 = .ok (.sipush 162, 3) := by decide +kernel
theorem dX4_init_26 : decode cX4_init 26 = .ok (.newarray .int, 2) := by decide +kernel
theorem dX4_init_28 : decode cX4_init 28 = .ok (.putfield 18, 3) := by decide +kernel
theorem dX4_init_31 : decode cX4_init 31 = .ok (.aload_n 0, 1) := by decide +kernel
theorem dX4_init_32 : decode cX4_init 32 = .ok (.bipush 40, 2) := by decide +kernel
theorem dX4_init_34 : decode cX4_init 34 = .ok (.newarray .int, 2) := by decide +kernel
theorem dX4_init_36 : decode cX4_init 36 = .ok (.putfield 21, 3) := by decide +kernel
theorem dX4_init_39 : decode cX4_init 39 = .ok (.aload_n 0, 1) := by decide +kernel
theorem dX4_init_40 : decode cX4_init 40 = .ok (.bipush 40, 2) := by decide +kernel
theorem dX4_init_42 : decode cX4_init 42 = .ok (.newarray .int, 2) := by decide +kernel
theorem dX4_init_44 : decode cX4_init 44 = .ok (.putfield 24, 3) := by decide +kernel
theorem dX4_init_47 : decode cX4_init 47 = .ok (.aload_n 0, 1) := by decide +kernel
theorem dX4_init_48 : decode cX4_init 48 = .ok (.bipush 40, 2) := by decide +kernel
theorem dX4_init_50 : decode cX4_init 50 = .ok (.newarray .int, 2) := by decide +kernel
theorem dX4_init_52 : decode cX4_init 52 = .ok (.putfield 27, 3) := by decide +kernel
theorem dX4_init_55 : decode cX4_init 55 = .ok (.aload_n 0, 1) := by decide +kernel
theorem dX4_init_56 : decode cX4_init 56 = .ok (.iconst 0, 1) := by decide +kernel
theorem dX4_init_57 : decode cX4_init 57 = .ok (.newarray .int, 2) := by decide +kernel
theorem dX4_init_59 : decode cX4_init 59 = .ok (.putfield 30, 3) := by decide +kernel
theorem dX4_init_62 : decode cX4_init 62 = .ok (.return_, 1) := by decide +kernel
set_option maxRecDepth 20000 in
theorem ggX4_scan_X4_begin : GoodIn wsX4_scan wsX4_begin := goodIn_r _ [8, 9, 1, 2, 10, 11, 12, 13, 14, 3, 98, 99, 100, 101, 102, 103, 104, 105, 106, 107, 108, 109, 110, 111, 112] (by decide +kernel) (by decide +kernel)
set_option maxRecDepth 20000 in
theorem gX4_scan_X4_begin : GoodIn wsX4_scan (wsV RX4 33 RX4 yX4_begin wsX4_begin) := goodIn_app (goodIn_of _ (by decide +kernel)) ggX4_scan_X4_begin
set_option maxRecDepth 20000 in
theorem ggX4_scan_X4_takeNext : GoodIn wsX4_scan wsX4_takeNext := goodIn_r _ [18, 2, 3, 19, 20, 21, 7, 22, 1, 9, 23, 24, 25, 26, 27, 28, 29, 14, 11, 30, 31, 32, 33, 34, 35, 36, 37, 38, 39, 40, 41, 42, 43, 44, 45, 46, 47, 12, 48, 49, 50, 51, 52, 53, 54, 55, 56, 57, 13, 58, 59, 60, 61, 62, 63, 64, 65, 66, 67, 68, 69, 70, 71, 72, 73, 74, 75, 76, 77, 78, 10, 79, 80, 81, 82, 83, 84, 85, 86, 87, 88, 89, 90, 91, 92, 93, 98, 99, 100, 101, 102, 103, 104, 105, 106, 107, 108, 109, 110, 111, 112] (by decide +kernel) (by decide +kernel)
set_option maxRecDepth 20000 in
theorem gX4_scan_X4_takeNext : GoodIn wsX4_scan (wsV RX4 47 RX4 yX4_takeNext wsX4_takeNext) := goodIn_app (goodIn_of _ (by decide +kernel)) ggX4_scan_X4_takeNext
set_option maxRecDepth 20000 in
theorem ggX4_scan_X4_endText : GoodIn wsX4_scan wsX4_endText := goodIn_r _ [97, 14, 3, 11, 71, 72, 73, 7, 74, 56, 13, 75, 76, 77, 78, 10, 79, 80, 81, 98, 99, 100, 101, 102, 103, 104, 105, 106, 107, 108, 109, 110, 111, 112] (by decide +kernel) (by decide +kernel)
set_option maxRecDepth 20000 in
theorem gX4_scan_X4_endText : GoodIn wsX4_scan (wsV RX4 50 RX4 yX4_endText wsX4_endText) := goodIn_app (goodIn_of _ (by decide +kernel)) ggX4_scan_X4_endText
theorem dX4_scan_0 : decode cX4_scan 0 = .ok (.aload_n 0, 1) := by decide +kernel
theorem dX4_scan_1 : decode cX4_scan 1 = .ok (.aload_n 1, 1) := by decide +kernel
theorem dX4_scan_2 : decode cX4_scan 2 = .ok (.iload_n 2, 1) := by decide +kernel
theorem dX4_scan_3 : decode cX4_scan 3 = .ok (.invokevirtual 33, 3) := by decide +kernel
theorem dX4_scan_6 : decode cX4_scan 6 = .ok (.iconst 0, 1) := by decide +kernel
theorem dX4_scan_7 : decode cX4_scan 7 = .ok (.istore_n 3, 1) := by decide +kernel
theorem dX4_scan_8 : decode cX4_scan 8 = .ok (.iload_n 3, 1) := by decide +kernel
theorem dX4_scan_9 : decode cX4_scan 9 = .ok (.aload_n 0, 1) := by decide +kernel
theorem dX4_scan_10 : decode cX4_scan 10 = .ok (.getfield 37, 3) := by decide +kernel
theorem dX4_scan_13 : decode cX4_scan 13 = .ok (.if_icmp .ge 31, 3) := by decide +kernel
theorem dX4_scan_16 : decode cX4_scan 16 = .ok (.aload_n 0, 1) := by decide +kernel
theorem dX4_scan_17 : decode cX4_scan 17 = .ok (.getfield 41, 3) := by decide +kernel
theorem dX4_scan_20 : decode cX4_scan 20 = .ok (.aload_n 0, 1) := by decide +kernel
theorem dX4_scan_21 : decode cX4_scan 21 = .ok (.getfield 37, 3) := by decide +kernel
theorem dX4_scan_24 : decode cX4_scan 24 = .ok (.if_icmp .ge 20, 3) := by decide +kernel
theorem dX4_scan_27 : decode cX4_scan 27 = .ok (.aload_n 0, 1) := by decide +kernel
theorem dX4_scan_28 : decode cX4_scan 28 = .ok (.getfield 44, 3) := by decide +kernel
theorem dX4_scan_31 : decode cX4_scan 31 = .ok (.ifCond .ne 13, 3) := by decide +kernel
theorem dX4_scan_34 : decode cX4_scan 34 = .ok (.aload_n 0, 1) := by decide +kernel
theorem dX4_scan_35 : decode cX4_scan 35 = .ok (.invokevirtual 47, 3) := by decide +kernel
theorem dX4_scan_38 : decode cX4_scan 38 = .ok (.iinc 3 1, 3) := by decide +kernel
theorem dX4_scan_41 : decode cX4_scan 41 = .ok (.goto (-33), 3) := by decide +kernel
theorem dX4_scan_44 : decode cX4_scan 44 = .ok (.aload_n 0, 1) := by decide +kernel
theorem dX4_scan_45 : decode cX4_scan 45 = .ok (.getfield 44, 3) := by decide +kernel
theorem dX4_scan_48 : decode cX4_scan 48 = .ok (.ifCond .ne 7, 3) := by decide +kernel
theorem dX4_scan_51 : decode cX4_scan 51 = .ok (.aload_n 0, 1) := by decide +kernel
theorem dX4_scan_52 : decode cX4_scan 52 = .ok (.invokevirtual 50, 3) := by decide +kernel
theorem dX4_scan_55 : decode cX4_scan 55 = .ok (.aload_n 0, 1) := by decide +kernel
theorem dX4_scan_56 : decode cX4_scan 56 = .ok (.getfield 44, 3) := by decide +kernel
theorem dX4_scan_59 : decode cX4_scan 59 = .ok (.ireturn, 1) := by decide +kernel
theorem dX4_place_0 : decode cX4_place 0 = .ok (.aload_n 0, 1) := by decide +kernel
theorem dX4_place_1 : decode cX4_place 1 = .ok (.getfield 41, 3) := by decide +kernel
theorem dX4_place_4 : decode cX4_place 4 = .ok (.ireturn, 1) := by decide +kernel
theorem dX4_wordCount_0 : decode cX4_wordCount 0 = .ok (.aload_n 0, 1) := by decide +kernel
theorem dX4_wordCount_1 : decode cX4_wordCount 1 = .ok (.getfield 53, 3) := by decide +kernel
theorem dX4_wordCount_4 : decode cX4_wordCount 4 = .ok (.ireturn, 1) := by decide +kernel
theorem dX4_wordKind_0 : decode cX4_wordKind 0 = .ok (.iload_n 1, 1) := by decide +kernel
theorem dX4_wordKind_1 : decode cX4_wordKind 1 = .ok (.ifCond .lt 20, 3) := by decide +kernel
theorem dX4_wordKind_4 : decode cX4_wordKind 4 = .ok (.iload_n 1, 1) := by decide +kernel
theorem dX4_wordKind_5 : decode cX4_wordKind 5 = .ok (.aload_n 0, 1) := by decide +kernel
theorem dX4_wordKind_6 : decode cX4_wordKind 6 = .ok (.getfield 53, 3) := by decide +kernel
theorem dX4_wordKind_9 : decode cX4_wordKind 9 = .ok (.if_icmp .ge 12, 3) := by decide +kernel
theorem dX4_wordKind_12 : decode cX4_wordKind 12 = .ok (.aload_n 0, 1) := by decide +kernel
theorem dX4_wordKind_13 : decode cX4_wordKind 13 = .ok (.getfield 11, 3) := by decide +kernel
theorem dX4_wordKind_16 : decode cX4_wordKind 16 = .ok (.iload_n 1, 1) := by decide +kernel
theorem dX4_wordKind_17 : decode cX4_wordKind 17 = .ok (.iaload, 1) := by decide +kernel
theorem dX4_wordKind_18 : decode cX4_wordKind 18 = .ok (.goto 4, 3) := by decide +kernel
theorem dX4_wordKind_21 : decode cX4_wordKind 21 = .ok (.iconst (-1), 1) := by decide +kernel
theorem dX4_wordKind_22 : decode cX4_wordKind 22 = .ok (.ireturn, 1) := by decide +kernel
theorem dX4_wordIndex_0 : decode cX4_wordIndex 0 = .ok (.iload_n 1, 1) := by decide +kernel
theorem dX4_wordIndex_1 : decode cX4_wordIndex 1 = .ok (.ifCond .lt 20, 3) := by decide +kernel
theorem dX4_wordIndex_4 : decode cX4_wordIndex 4 = .ok (.iload_n 1, 1) := by decide +kernel
theorem dX4_wordIndex_5 : decode cX4_wordIndex 5 = .ok (.aload_n 0, 1) := by decide +kernel
theorem dX4_wordIndex_6 : decode cX4_wordIndex 6 = .ok (.getfield 53, 3) := by decide +kernel
theorem dX4_wordIndex_9 : decode cX4_wordIndex 9 = .ok (.if_icmp .ge 12, 3) := by decide +kernel
theorem dX4_wordIndex_12 : decode cX4_wordIndex 12 = .ok (.aload_n 0, 1) := by decide +kernel
theorem dX4_wordIndex_13 : decode cX4_wordIndex 13 = .ok (.getfield 15, 3) := by decide +kernel
theorem dX4_wordIndex_16 : decode cX4_wordIndex 16 = .ok (.iload_n 1, 1) := by decide +kernel
theorem dX4_wordIndex_17 : decode cX4_wordIndex 17 = .ok (.iaload, 1) := by decide +kernel
theorem dX4_wordIndex_18 : decode cX4_wordIndex 18 = .ok (.goto 4, 3) := by decide +kernel
theorem dX4_wordIndex_21 : decode cX4_wordIndex 21 = .ok (.iconst 0, 1) := by decide +kernel
theorem dX4_wordIndex_22 : decode cX4_wordIndex 22 = .ok (.ireturn, 1) := by decide +kernel
theorem dX4_wordSlot_0 : decode cX4_wordSlot 0 = .ok (.iload_n 1, 1) := by decide +kernel
theorem dX4_wordSlot_1 : decode cX4_wordSlot 1 = .ok (.ifCond .lt 20, 3) := by decide +kernel
theorem dX4_wordSlot_4 : decode cX4_wordSlot 4 = .ok (.iload_n 1, 1) := by decide +kernel
theorem dX4_wordSlot_5 : decode cX4_wordSlot 5 = .ok (.aload_n 0, 1) := by decide +kernel
theorem dX4_wordSlot_6 : decode cX4_wordSlot 6 = .ok (.getfield 53, 3) := by decide +kernel
theorem dX4_wordSlot_9 : decode cX4_wordSlot 9 = .ok (.if_icmp .ge 12, 3) := by decide +kernel
theorem dX4_wordSlot_12 : decode cX4_wordSlot 12 = .ok (.aload_n 0, 1) := by decide +kernel
theorem dX4_wordSlot_13 : decode cX4_wordSlot 13 = .ok (.getfield 18, 3) := by decide +kernel
theorem dX4_wordSlot_16 : decode cX4_wordSlot 16 = .ok (.iload_n 1, 1) := by decide +kernel
theorem dX4_wordSlot_17 : decode cX4_wordSlot 17 = .ok (.iaload, 1) := by decide +kernel
theorem dX4_wordSlot_18 : decode cX4_wordSlot 18 = .ok (.goto 4, 3) := by decide +kernel
theorem dX4_wordSlot_21 : decode cX4_wordSlot 21 = .ok (.iconst (-1), 1) := by decide +kernel
theorem dX4_wordSlot_22 : decode cX4_wordSlot 22 = .ok (.ireturn, 1) := by decide +kernel
theorem dX4_begin_0 : decode cX4_begin 0 = .ok (.aload_n 0, 1) := by decide +kernel
theorem dX4_begin_1 : decode cX4_begin 1 = .ok (.aload_n 1, 1) := by decide +kernel
theorem dX4_begin_2 : decode cX4_begin 2 = .ok (.putfield 30, 3) := by decide +kernel
theorem dX4_begin_5 : decode cX4_begin 5 = .ok (.aload_n 0, 1) := by decide +kernel
theorem dX4_begin_6 : decode cX4_begin 6 = .ok (.iload_n 2, 1) := by decide +kernel
theorem dX4_begin_7 : decode cX4_begin 7 = .ok (.aload_n 1, 1) := by decide +kernel
theorem dX4_begin_8 : decode cX4_begin 8 = .ok (.arraylength, 1) := by decide +kernel
theorem dX4_begin_9 : decode cX4_begin 9 = .ok (.if_icmp .gt 7, 3) := by decide +kernel
theorem dX4_begin_12 : decode cX4_begin 12 = .ok (.iload_n 2, 1) := by decide +kernel
theorem dX4_begin_13 : decode cX4_begin 13 = .ok (.goto 5, 3) := by decide +kernel
theorem dX4_begin_16 : decode cX4_begin 16 = .ok (.aload_n 1, 1) := by decide +kernel
theorem dX4_begin_17 : decode cX4_begin 17 = .ok (.arraylength, 1) := by decide +kernel
theorem dX4_begin_18 : decode cX4_begin 18 = .ok (.putfield 37, 3) := by decide +kernel
theorem dX4_begin_21 : decode cX4_begin 21 = .ok (.aload_n 0, 1) := by decide +kernel
theorem dX4_begin_22 : decode cX4_begin 22 = .ok (.iconst 0, 1) := by decide +kernel
theorem dX4_begin_23 : decode cX4_begin 23 = .ok (.putfield 41, 3) := by decide +kernel
theorem dX4_begin_26 : decode cX4_begin 26 = .ok (.aload_n 0, 1) := by decide +kernel
theorem dX4_begin_27 : decode cX4_begin 27 = .ok (.iconst 0, 1) := by decide +kernel
theorem dX4_begin_28 : decode cX4_begin 28 = .ok (.putfield 53, 3) := by decide +kernel
theorem dX4_begin_31 : decode cX4_begin 31 = .ok (.aload_n 0, 1) := by decide +kernel
theorem dX4_begin_32 : decode cX4_begin 32 = .ok (.iconst 0, 1) := by decide +kernel
theorem dX4_begin_33 : decode cX4_begin 33 = .ok (.putfield 56, 3) := by decide +kernel
theorem dX4_begin_36 : decode cX4_begin 36 = .ok (.aload_n 0, 1) := by decide +kernel
theorem dX4_begin_37 : decode cX4_begin 37 = .ok (.iconst 0, 1) := by decide +kernel
theorem dX4_begin_38 : decode cX4_begin 38 = .ok (.putfield 59, 3) := by decide +kernel
theorem dX4_begin_41 : decode cX4_begin 41 = .ok (.aload_n 0, 1) := by decide +kernel
theorem dX4_begin_42 : decode cX4_begin 42 = .ok (.iconst 0, 1) := by decide +kernel
theorem dX4_begin_43 : decode cX4_begin 43 = .ok (.putfield 62, 3) := by decide +kernel
theorem dX4_begin_46 : decode cX4_begin 46 = .ok (.aload_n 0, 1) := by decide +kernel
theorem dX4_begin_47 : decode cX4_begin 47 = .ok (.iconst 0, 1) := by decide +kernel
theorem dX4_begin_48 : decode cX4_begin 48 = .ok (.putfield 65, 3) := by decide +kernel
theorem dX4_begin_51 : decode cX4_begin 51 = .ok (.aload_n 0, 1) := by decide +kernel
theorem dX4_begin_52 : decode cX4_begin 52 = .ok (.iconst 0, 1) := by decide +kernel
theorem dX4_begin_53 : decode cX4_begin 53 = .ok (.putfield 44, 3) := by decide +kernel
theorem dX4_begin_56 : decode cX4_begin 56 = .ok (.return_, 1) := by decide +kernel
set_option maxRecDepth 20000 in
theorem ggX4_takeNext_X4_byteAt : GoodIn wsX4_takeNext wsX4_byteAt := goodIn_r _ [7, 8, 9, 86, 87, 88, 89, 90, 91, 92, 93, 94, 95, 96, 97, 98, 99, 100] (by decide +kernel) (by decide +kernel)
set_option maxRecDepth 20000 in
theorem gX4_takeNext_X4_byteAt : GoodIn wsX4_takeNext (wsV RX4 68 RX4 yX4_byteAt wsX4_byteAt) := goodIn_app (goodIn_of _ (by decide +kernel)) ggX4_takeNext_X4_byteAt
set_option maxRecDepth 20000 in
theorem ggX4_takeNext_X4_isBlank : GoodIn wsX4_takeNext wsX4_isBlank := goodIn_r _ [12] (by decide +kernel) (by decide +kernel)
set_option maxRecDepth 20000 in
theorem gX4_takeNext_X4_isBlank : GoodIn wsX4_takeNext (va_wsS RX4 72 yX4_isBlank wsX4_isBlank) := goodIn_app (goodIn_of _ (by decide +kernel)) ggX4_takeNext_X4_isBlank
set_option maxRecDepth 20000 in
theorem ggX4_takeNext_X4_openLambda : GoodIn wsX4_takeNext wsX4_openLambda := goodIn_r _ [16, 17, 2, 18, 1, 19, 20, 21, 6, 22, 8, 3, 4, 5, 7, 9, 10, 11, 12, 23, 24, 25, 26, 27, 28, 29, 30, 31, 32, 33, 34, 35, 36, 37, 38, 39, 40, 41, 42, 43, 44, 45, 46, 47, 48, 49, 86, 87, 88, 89, 90, 91, 92, 93, 94, 95, 96, 97, 98, 99, 100] (by decide +kernel) (by decide +kernel)
set_option maxRecDepth 20000 in
theorem gX4_takeNext_X4_openLambda : GoodIn wsX4_takeNext (wsV RX4 76 RX4 yX4_openLambda wsX4_openLambda) := goodIn_app (goodIn_of _ (by decide +kernel)) ggX4_takeNext_X4_openLambda
set_option maxRecDepth 20000 in
theorem ggX4_takeNext_X4_openParenthesis : GoodIn wsX4_takeNext wsX4_openParenthesis := goodIn_r _ [53, 18, 2, 1, 48, 17, 42, 43, 44, 6, 45, 46, 47, 49, 54, 55, 56, 57, 86, 87, 88, 89, 90, 91, 92, 93, 94, 95, 96, 97, 98, 99, 100] (by decide +kernel) (by decide +kernel)
set_option maxRecDepth 20000 in
theorem gX4_takeNext_X4_openParenthesis : GoodIn wsX4_takeNext (wsV RX4 79 RX4 yX4_openParenthesis wsX4_openParenthesis) := goodIn_app (goodIn_of _ (by decide +kernel)) ggX4_takeNext_X4_openParenthesis
set_option maxRecDepth 20000 in
theorem ggX4_takeNext_X4_closeParenthesis : GoodIn wsX4_takeNext wsX4_closeParenthesis := goodIn_r _ [61, 17, 2, 18, 1, 47, 48, 49, 62, 63, 64, 6, 65, 46, 66, 67, 68, 69, 70, 71, 72, 73, 74, 75, 76, 77, 86, 87, 88, 89, 90, 91, 92, 93, 94, 95, 96, 97, 98, 99, 100] (by decide +kernel) (by decide +kernel)
set_option maxRecDepth 20000 in
theorem gX4_takeNext_X4_closeParenthesis : GoodIn wsX4_takeNext (wsV RX4 82 RX4 yX4_closeParenthesis wsX4_closeParenthesis) := goodIn_app (goodIn_of _ (by decide +kernel)) ggX4_takeNext_X4_closeParenthesis
set_option maxRecDepth 20000 in
theorem ggX4_takeNext_X4_isLetter : GoodIn wsX4_takeNext wsX4_isLetter := goodIn_r _ [29] (by decide +kernel) (by decide +kernel)
set_option maxRecDepth 20000 in
theorem gX4_takeNext_X4_isLetter : GoodIn wsX4_takeNext (va_wsS RX4 85 yX4_isLetter wsX4_isLetter) := goodIn_app (goodIn_of _ (by decide +kernel)) ggX4_takeNext_X4_isLetter
set_option maxRecDepth 20000 in
theorem ggX4_takeNext_X4_takeVariable : GoodIn wsX4_takeNext wsX4_takeVariable := goodIn_r _ [81, 2, 1, 23, 24, 25, 6, 26, 8, 3, 4, 5, 7, 9, 27, 28, 29, 30, 31, 32, 38, 39, 40, 41, 82, 83, 84, 85, 18, 46, 33, 34, 35, 36, 37, 54, 55, 56, 57, 17, 48, 66, 67, 68, 69, 70, 71, 72, 73, 74, 75, 76, 77, 86, 87, 88, 89, 90, 91, 92, 93, 94, 95, 96, 97, 98, 99, 100] (by decide +kernel) (by decide +kernel)
set_option maxRecDepth 20000 in
theorem gX4_takeNext_X4_takeVariable : GoodIn wsX4_takeNext (wsV RX4 88 RX4 yX4_takeVariable wsX4_takeVariable) := goodIn_app (goodIn_of _ (by decide +kernel)) ggX4_takeNext_X4_takeVariable
theorem dX4_takeNext_0 : decode cX4_takeNext 0 = .ok (.aload_n 0, 1) := by decide +kernel
theorem dX4_takeNext_1 : decode cX4_takeNext 1 = .ok (.aload_n 0, 1) := by decide +kernel
theorem dX4_takeNext_2 : decode cX4_takeNext 2 = .ok (.getfield 41, 3) := by decide +kernel
theorem dX4_takeNext_5 : decode cX4_takeNext 5 = .ok (.invokevirtual 68, 3) := by decide +kernel
theorem dX4_takeNext_8 : decode cX4_takeNext 8 = .ok (.istore_n 1, 1) := by decide +kernel
theorem dX4_takeNext_9 : decode cX4_takeNext 9 = .ok (.iload_n 1, 1) := by decide +kernel
theorem dX4_takeNext_10 : decode cX4_takeNext 10 = .ok (.invokestatic 72, 3) := by decide +kernel
theorem dX4_takeNext_13 : decode cX4_takeNext 13 = .ok (.ifCond .eq 16, 3) := by decide +kernel
theorem dX4_takeNext_16 : decode cX4_takeNext 16 = .ok (.aload_n 0, 1) := by decide +kernel
theorem dX4_takeNext_17 : decode cX4_takeNext 17 = .ok (.dup, 1) := by decide +kernel
theorem dX4_takeNext_18 : decode cX4_takeNext 18 = .ok (.getfield 41, 3) := by decide +kernel
theorem dX4_takeNext_21 : decode cX4_takeNext 21 = .ok (.iconst 1, 1) := by decide +kernel
theorem dX4_takeNext_22 : decode cX4_takeNext 22 = .ok (.iadd, 1) := by decide +kernel
theorem dX4_takeNext_23 : decode cX4_takeNext 23 = .ok (.putfield 41, 3) := by decide +kernel
theorem dX4_takeNext_26 : decode cX4_takeNext 26 = .ok (.goto 61, 3) := by decide +kernel
theorem dX4_takeNext_29 : decode cX4_takeNext 29 = .ok (.iload_n 1, 1) := by decide +kernel
theorem dX4_takeNext_30 : decode cX4_takeNext 30 = .ok (.bipush 92, 2) := by decide +kernel
theorem dX4_takeNext_32 : decode cX4_takeNext 32 = .ok (.if_icmp .ne 10, 3) := by decide +kernel
theorem dX4_takeNext_35 : decode cX4_takeNext 35 = .ok (.aload_n 0, 1) := by decide +kernel
theorem dX4_takeNext_36 : decode cX4_takeNext 36 = .ok (.invokevirtual 76, 3) := by decide +kernel
theorem dX4_takeNext_39 : decode cX4_takeNext 39 = .ok (.goto 48, 3) := by decide +kernel
theorem dX4_takeNext_42 : decode cX4_takeNext 42 = .ok (.iload_n 1, 1) := by decide +kernel
theorem dX4_takeNext_43 : decode cX4_takeNext 43 = .ok (.bipush 40, 2) := by decide +kernel
theorem dX4_takeNext_45 : decode cX4_takeNext 45 = .ok (.if_icmp .ne 10, 3) := by decide +kernel
theorem dX4_takeNext_48 : decode cX4_takeNext 48 = .ok (.aload_n 0, 1) := by decide +kernel
theorem dX4_takeNext_49 : decode cX4_takeNext 49 = .ok (.invokevirtual 79, 3) := by decide +kernel
theorem dX4_takeNext_52 : decode cX4_takeNext 52 = .ok (.goto 35, 3) := by decide +kernel
theorem dX4_takeNext_55 : decode cX4_takeNext 55 = .ok (.iload_n 1, 1) := by decide +kernel
theorem dX4_takeNext_56 : decode cX4_takeNext 56 = .ok (.bipush 41, 2) := by decide +kernel
theorem dX4_takeNext_58 : decode cX4_takeNext 58 = .ok (.if_icmp .ne 10, 3) := by decide +kernel
theorem dX4_takeNext_61 : decode cX4_takeNext 61 = .ok (.aload_n 0, 1) := by decide +kernel
theorem dX4_takeNext_62 : decode cX4_takeNext 62 = .ok (.invokevirtual 82, 3) := by decide +kernel
theorem dX4_takeNext_65 : decode cX4_takeNext 65 = .ok (.goto 22, 3) := by decide +kernel
theorem dX4_takeNext_68 : decode cX4_takeNext 68 = .ok (.iload_n 1, 1) := by decide +kernel
theorem dX4_takeNext_69 : decode cX4_takeNext 69 = .ok (.invokestatic 85, 3) := by decide +kernel
theorem dX4_takeNext_72 : decode cX4_takeNext 72 = .ok (.ifCond .eq 10, 3) := by decide +kernel
theorem dX4_takeNext_75 : decode cX4_takeNext 75 = .ok (.aload_n 0, 1) := by decide +kernel
theorem dX4_takeNext_76 : decode cX4_takeNext 76 = .ok (.invokevirtual 88, 3) := by decide +kernel
theorem dX4_takeNext_79 : decode cX4_takeNext 79 = .ok (.goto 8, 3) := by decide +kernel
theorem dX4_takeNext_82 : decode cX4_takeNext 82 = .ok (.aload_n 0, 1) := by decide +kernel
theorem dX4_takeNext_83 : decode cX4_takeNext 83 = .ok (.iconst 1, 1) := by decide +kernel
theorem dX4_takeNext_84 : decode cX4_takeNext 84 = .ok (.putfield 44, 3) := by decide +kernel
theorem dX4_takeNext_87 : decode cX4_takeNext 87 = .ok (.return_, 1) := by decide +kernel
set_option maxRecDepth 20000 in
theorem ggX4_openLambda_X4_skipBlanks : GoodIn wsX4_openLambda wsX4_skipBlanks := goodIn_r _ [9, 4, 10, 11, 12, 13, 8, 14, 15, 16, 17, 18, 46, 47, 48, 49, 50, 51, 52, 53, 54, 55, 56, 57, 58, 59, 60] (by decide +kernel) (by decide +kernel)
set_option maxRecDepth 20000 in
theorem gX4_openLambda_X4_skipBlanks : GoodIn wsX4_openLambda (wsV RX4 91 RX4 yX4_skipBlanks wsX4_skipBlanks) := goodIn_app (goodIn_of _ (by decide +kernel)) ggX4_openLambda_X4_skipBlanks
set_option maxRecDepth 20000 in
theorem ggX4_openLambda_X4_nameSize : GoodIn wsX4_openLambda wsX4_nameSize := goodIn_r _ [22, 4, 10, 11, 12, 13, 8, 14, 15, 23, 24, 25, 26, 27, 28, 46, 47, 48, 49, 50, 51, 52, 53, 54, 55, 56, 57, 58, 59, 60] (by decide +kernel) (by decide +kernel)
set_option maxRecDepth 20000 in
theorem gX4_openLambda_X4_nameSize : GoodIn wsX4_openLambda (wsV RX4 94 RX4 yX4_nameSize wsX4_nameSize) := goodIn_app (goodIn_of _ (by decide +kernel)) ggX4_openLambda_X4_nameSize
set_option maxRecDepth 20000 in
theorem ggX4_openLambda_X4_countName : GoodIn wsX4_openLambda wsX4_countName := goodIn_r _ [32, 33, 46, 47, 48, 49, 50, 51, 52, 53, 54, 55, 56, 57, 58, 59, 60] (by decide +kernel) (by decide +kernel)
set_option maxRecDepth 20000 in
theorem gX4_openLambda_X4_countName : GoodIn wsX4_openLambda (wsV RX4 98 RX4 yX4_countName wsX4_countName) := goodIn_app (goodIn_of _ (by decide +kernel)) ggX4_openLambda_X4_countName
set_option maxRecDepth 20000 in
theorem ggX4_openLambda_X4_nameOf : GoodIn wsX4_openLambda wsX4_nameOf := goodIn_r _ [37, 4, 11, 12, 13, 8, 14, 10, 15, 46, 47, 48, 49, 50, 51, 52, 53, 54, 55, 56, 57, 58, 59, 60] (by decide +kernel) (by decide +kernel)
set_option maxRecDepth 20000 in
theorem gX4_openLambda_X4_nameOf : GoodIn wsX4_openLambda (wsV RX4 101 RX4 yX4_nameOf wsX4_nameOf) := goodIn_app (goodIn_of _ (by decide +kernel)) ggX4_openLambda_X4_nameOf
set_option maxRecDepth 20000 in
theorem ggX4_openLambda_X4_byteAt : GoodIn wsX4_openLambda wsX4_byteAt := goodIn_r _ [14, 10, 15, 46, 47, 48, 49, 50, 51, 52, 53, 54, 55, 56, 57, 58, 59, 60] (by decide +kernel) (by decide +kernel)
set_option maxRecDepth 20000 in
theorem gX4_openLambda_X4_byteAt : GoodIn wsX4_openLambda (wsV RX4 68 RX4 yX4_byteAt wsX4_byteAt) := goodIn_app (goodIn_of _ (by decide +kernel)) ggX4_openLambda_X4_byteAt
set_option maxRecDepth 20000 in
theorem ggX4_openLambda_X4_push : GoodIn wsX4_openLambda wsX4_push := goodIn_r _ [41, 3, 42, 43, 44, 45, 1, 46, 47, 48, 49, 50, 51, 52, 53, 54, 55, 56, 57, 58, 59, 60] (by decide +kernel) (by decide +kernel)
set_option maxRecDepth 20000 in
theorem gX4_openLambda_X4_push : GoodIn wsX4_openLambda (wsV RX4 104 RX4 yX4_push wsX4_push) := goodIn_app (goodIn_of _ (by decide +kernel)) ggX4_openLambda_X4_push
theorem dX4_openLambda_0 : decode cX4_openLambda 0 = .ok (.aload_n 0, 1) := by decide +kernel
theorem dX4_openLambda_1 : decode cX4_openLambda 1 = .ok (.getfield 65, 3) := by decide +kernel
theorem dX4_openLambda_4 : decode cX4_openLambda 4 = .ok (.ifCond .le 9, 3) := by decide +kernel
theorem dX4_openLambda_7 : decode cX4_openLambda 7 = .ok (.aload_n 0, 1) := by decide +kernel
theorem dX4_openLambda_8 : decode cX4_openLambda 8 = .ok (.iconst 1, 1) := by decide +kernel
theorem dX4_openLambda_9 : decode cX4_openLambda 9 = .ok (.putfield 44, 3) := by decide +kernel
theorem dX4_openLambda_12 : decode cX4_openLambda 12 = .ok (.return_, 1) := by decide +kernel
theorem dX4_openLambda_13 : decode cX4_openLambda 13 = .ok (.aload_n 0, 1) := by decide +kernel
theorem dX4_openLambda_14 : decode cX4_openLambda 14 = .ok (.getfield 56, 3) := by decide +kernel
theorem dX4_openLambda_17 : decode cX4_openLambda 17 = .ok (.bipush 40, 2) := by decide +kernel
theorem dX4_openLambda_19 : decode cX4_openLambda 19 = .ok (.if_icmp .lt 9, 3) := by decide +kernel
theorem dX4_openLambda_22 : decode cX4_openLambda 22 = .ok (.aload_n 0, 1) := by decide +kernel
theorem dX4_openLambda_23 : decode cX4_openLambda 23 = .ok (.iconst 3, 1) := by decide +kernel
theorem dX4_openLambda_24 : decode cX4_openLambda 24 = .ok (.putfield 44, 3) := by decide +kernel
theorem dX4_openLambda_27 : decode cX4_openLambda 27 = .ok (.return_, 1) := by decide +kernel
theorem dX4_openLambda_28 : decode cX4_openLambda 28 = .ok (.aload_n 0, 1) := by decide +kernel
theorem dX4_openLambda_29 : decode cX4_openLambda 29 = .ok (.dup, 1) := by decide +kernel
theorem dX4_openLambda_30 : decode cX4_openLambda 30 = .ok (.getfield 41, 3) := by decide +kernel
theorem dX4_openLambda_33 : decode cX4_openLambda 33 = .ok (.iconst 1, 1) := by decide +kernel
theorem dX4_openLambda_34 : decode cX4_openLambda 34 = .ok (.iadd, 1) := by decide +kernel
theorem dX4_openLambda_35 : decode cX4_openLambda 35 = .ok (.putfield 41, 3) := by decide +kernel
theorem dX4_openLambda_38 : decode cX4_openLambda 38 = .ok (.aload_n 0, 1) := by decide +kernel
theorem dX4_openLambda_39 : decode cX4_openLambda 39 = .ok (.invokevirtual 91, 3) := by decide +kernel
theorem dX4_openLambda_42 : decode cX4_openLambda 42 = .ok (.aload_n 0, 1) := by decide +kernel
theorem dX4_openLambda_43 : decode cX4_openLambda 43 = .ok (.invokevirtual 94, 3) := by decide +kernel
theorem dX4_openLambda_46 : decode cX4_openLambda 46 = .ok (.istore_n 1, 1) := by decide +kernel
theorem dX4_openLambda_47 : decode cX4_openLambda 47 = .ok (.aload_n 0, 1) := by decide +kernel
theorem dX4_openLambda_48 : decode cX4_openLambda 48 = .ok (.iload_n 1, 1) := by decide +kernel
theorem dX4_openLambda_49 : decode cX4_openLambda 49 = .ok (.ifCond .eq 8, 3) := by decide +kernel
theorem dX4_openLambda_52 : decode cX4_openLambda 52 = .ok (.iload_n 1, 1) := by decide +kernel
theorem dX4_openLambda_53 : decode cX4_openLambda 53 = .ok (.iconst 4, 1) := by decide +kernel
theorem dX4_openLambda_54 : decode cX4_openLambda 54 = .ok (.if_icmp .le 7, 3) := by decide +kernel
theorem dX4_openLambda_57 : decode cX4_openLambda 57 = .ok (.iconst 1, 1) := by decide +kernel
theorem dX4_openLambda_58 : decode cX4_openLambda 58 = .ok (.goto 7, 3) := by decide +kernel
theorem dX4_openLambda_61 : decode cX4_openLambda 61 = .ok (.aload_n 0, 1) := by decide +kernel
theorem dX4_openLambda_62 : decode cX4_openLambda 62 = .ok (.invokevirtual 98, 3) := by decide +kernel
theorem dX4_openLambda_65 : decode cX4_openLambda 65 = .ok (.putfield 44, 3) := by decide +kernel
theorem dX4_openLambda_68 : decode cX4_openLambda 68 = .ok (.aload_n 0, 1) := by decide +kernel
theorem dX4_openLambda_69 : decode cX4_openLambda 69 = .ok (.getfield 44, 3) := by decide +kernel
theorem dX4_openLambda_72 : decode cX4_openLambda 72 = .ok (.ifCond .eq 4, 3) := by decide +kernel
theorem dX4_openLambda_75 : decode cX4_openLambda 75 = .ok (.return_, 1) := by decide +kernel
theorem dX4_openLambda_76 : decode cX4_openLambda 76 = .ok (.aload_n 0, 1) := by decide +kernel
theorem dX4_openLambda_77 : decode cX4_openLambda 77 = .ok (.iload_n 1, 1) := by decide +kernel
theorem dX4_openLambda_78 : decode cX4_openLambda 78 = .ok (.invokevirtual 101, 3) := by decide +kernel
theorem dX4_openLambda_81 : decode cX4_openLambda 81 = .ok (.istore_n 2, 1) := by decide +kernel
theorem dX4_openLambda_82 : decode cX4_openLambda 82 = .ok (.aload_n 0, 1) := by decide +kernel
theorem dX4_openLambda_83 : decode cX4_openLambda 83 = .ok (.dup, 1) := by decide +kernel
theorem dX4_openLambda_84 : decode cX4_openLambda 84 = .ok (.getfield 41, 3) := by decide +kernel
theorem dX4_openLambda_87 : decode cX4_openLambda 87 = .ok (.iload_n 1, 1) := by decide +kernel
theorem dX4_openLambda_88 : decode cX4_openLambda 88 = .ok (.iadd, 1) := by decide +kernel
theorem dX4_openLambda_89 : decode cX4_openLambda 89 = .ok (.putfield 41, 3) := by decide +kernel
theorem dX4_openLambda_92 : decode cX4_openLambda 92 = .ok (.aload_n 0, 1) := by decide +kernel
theorem dX4_openLambda_93 : decode cX4_openLambda 93 = .ok (.invokevirtual 91, 3) := by decide +kernel
theorem dX4_openLambda_96 : decode cX4_openLambda 96 = .ok (.aload_n 0, 1) := by decide +kernel
theorem dX4_openLambda_97 : decode cX4_openLambda 97 = .ok (.aload_n 0, 1) := by decide +kernel
theorem dX4_openLambda_98 : decode cX4_openLambda 98 = .ok (.getfield 41, 3) := by decide +kernel
theorem dX4_openLambda_101 : decode cX4_openLambda 101 = .ok (.invokevirtual 68, 3) := by decide +kernel
theorem dX4_openLambda_104 : decode cX4_openLambda 104 = .ok (.bipush 46, 2) := by decide +kernel
theorem dX4_openLambda_106 : decode cX4_openLambda 106 = .ok (.if_icmp .eq 9, 3) := by decide +kernel
theorem dX4_openLambda_109 : decode cX4_openLambda 109 = .ok (.aload_n 0, 1) := by decide +kernel
theorem dX4_openLambda_110 : decode cX4_openLambda 110 = .ok (.iconst 1, 1) := by decide +kernel
theorem dX4_openLambda_111 : decode cX4_openLambda 111 = .ok (.putfield 44, 3) := by decide +kernel
theorem dX4_openLambda_114 : decode cX4_openLambda 114 = .ok (.return_, 1) := by decide +kernel
theorem dX4_openLambda_115 : decode cX4_openLambda 115 = .ok (.aload_n 0, 1) := by decide +kernel
theorem dX4_openLambda_116 : decode cX4_openLambda 116 = .ok (.dup, 1) := by decide +kernel
theorem dX4_openLambda_117 : decode cX4_openLambda 117 = .ok (.getfield 41, 3) := by decide +kernel
theorem dX4_openLambda_120 : decode cX4_openLambda 120 = .ok (.iconst 1, 1) := by decide +kernel
theorem dX4_openLambda_121 : decode cX4_openLambda 121 = .ok (.iadd, 1) := by decide +kernel
theorem dX4_openLambda_122 : decode cX4_openLambda 122 = .ok (.putfield 41, 3) := by decide +kernel
theorem dX4_openLambda_125 : decode cX4_openLambda 125 = .ok (.aload_n 0, 1) := by decide +kernel
theorem dX4_openLambda_126 : decode cX4_openLambda 126 = .ok (.iload_n 2, 1) := by decide +kernel
theorem dX4_openLambda_127 : decode cX4_openLambda 127 = .ok (.invokevirtual 104, 3) := by decide +kernel
theorem dX4_openLambda_130 : decode cX4_openLambda 130 = .ok (.return_, 1) := by decide +kernel
set_option maxRecDepth 20000 in
theorem ggX4_openParenthesis_X4_push : GoodIn wsX4_openParenthesis wsX4_push := goodIn_r _ [10, 1, 11, 12, 4, 13, 5, 18, 19, 20, 21, 22, 23, 24, 25, 26, 27, 28, 29, 30, 31, 32] (by decide +kernel) (by decide +kernel)
set_option maxRecDepth 20000 in
theorem gX4_openParenthesis_X4_push : GoodIn wsX4_openParenthesis (wsV RX4 104 RX4 yX4_push wsX4_push) := goodIn_app (goodIn_of _ (by decide +kernel)) ggX4_openParenthesis_X4_push
set_option maxRecDepth 20000 in
theorem ggX4_openParenthesis_X4_partIndex : GoodIn wsX4_openParenthesis wsX4_partIndex := goodIn_r _ [17, 5, 4, 18, 19, 20, 21, 22, 23, 24, 25, 26, 27, 28, 29, 30, 31, 32] (by decide +kernel) (by decide +kernel)
set_option maxRecDepth 20000 in
theorem gX4_openParenthesis_X4_partIndex : GoodIn wsX4_openParenthesis (wsV RX4 108 RX4 yX4_partIndex wsX4_partIndex) := goodIn_app (goodIn_of _ (by decide +kernel)) ggX4_openParenthesis_X4_partIndex
theorem dX4_openParenthesis_0 : decode cX4_openParenthesis 0 = .ok (.aload_n 0, 1) := by decide +kernel
theorem dX4_openParenthesis_1 : decode cX4_openParenthesis 1 = .ok (.getfield 56, 3) := by decide +kernel
theorem dX4_openParenthesis_4 : decode cX4_openParenthesis 4 = .ok (.bipush 40, 2) := by decide +kernel
theorem dX4_openParenthesis_6 : decode cX4_openParenthesis 6 = .ok (.if_icmp .lt 9, 3) := by decide +kernel
theorem dX4_openParenthesis_9 : decode cX4_openParenthesis 9 = .ok (.aload_n 0, 1) := by decide +kernel
theorem dX4_openParenthesis_10 : decode cX4_openParenthesis 10 = .ok (.iconst 3, 1) := by decide +kernel
theorem dX4_openParenthesis_11 : decode cX4_openParenthesis 11 = .ok (.putfield 44, 3) := by decide +kernel
theorem dX4_openParenthesis_14 : decode cX4_openParenthesis 14 = .ok (.return_, 1) := by decide +kernel
theorem dX4_openParenthesis_15 : decode cX4_openParenthesis 15 = .ok (.aload_n 0, 1) := by decide +kernel
theorem dX4_openParenthesis_16 : decode cX4_openParenthesis 16 = .ok (.dup, 1) := by decide +kernel
theorem dX4_openParenthesis_17 : decode cX4_openParenthesis 17 = .ok (.getfield 41, 3) := by decide +kernel
theorem dX4_openParenthesis_20 : decode cX4_openParenthesis 20 = .ok (.iconst 1, 1) := by decide +kernel
theorem dX4_openParenthesis_21 : decode cX4_openParenthesis 21 = .ok (.iadd, 1) := by decide +kernel
theorem dX4_openParenthesis_22 : decode cX4_openParenthesis 22 = .ok (.putfield 41, 3) := by decide +kernel
theorem dX4_openParenthesis_25 : decode cX4_openParenthesis 25 = .ok (.aload_n 0, 1) := by decide +kernel
theorem dX4_openParenthesis_26 : decode cX4_openParenthesis 26 = .ok (.iconst 0, 1) := by decide +kernel
theorem dX4_openParenthesis_27 : decode cX4_openParenthesis 27 = .ok (.invokevirtual 104, 3) := by decide +kernel
theorem dX4_openParenthesis_30 : decode cX4_openParenthesis 30 = .ok (.aload_n 0, 1) := by decide +kernel
theorem dX4_openParenthesis_31 : decode cX4_openParenthesis 31 = .ok (.aload_n 0, 1) := by decide +kernel
theorem dX4_openParenthesis_32 : decode cX4_openParenthesis 32 = .ok (.invokevirtual 108, 3) := by decide +kernel
theorem dX4_openParenthesis_35 : decode cX4_openParenthesis 35 = .ok (.putfield 62, 3) := by decide +kernel
theorem dX4_openParenthesis_38 : decode cX4_openParenthesis 38 = .ok (.aload_n 0, 1) := by decide +kernel
theorem dX4_openParenthesis_39 : decode cX4_openParenthesis 39 = .ok (.iconst 0, 1) := by decide +kernel
theorem dX4_openParenthesis_40 : decode cX4_openParenthesis 40 = .ok (.putfield 65, 3) := by decide +kernel
theorem dX4_openParenthesis_43 : decode cX4_openParenthesis 43 = .ok (.return_, 1) := by decide +kernel
set_option maxRecDepth 20000 in
theorem ggX4_closeParenthesis_X4_closeLambdas : GoodIn wsX4_closeParenthesis wsX4_closeLambdas := goodIn_r _ [12, 3, 13, 6, 14, 15, 16, 11, 17, 18, 19, 20, 21, 26, 27, 28, 29, 30, 31, 32, 33, 34, 35, 36, 37, 38, 39, 40] (by decide +kernel) (by decide +kernel)
set_option maxRecDepth 20000 in
theorem gX4_closeParenthesis_X4_closeLambdas : GoodIn wsX4_closeParenthesis (wsV RX4 111 RX4 yX4_closeLambdas wsX4_closeLambdas) := goodIn_app (goodIn_of _ (by decide +kernel)) ggX4_closeParenthesis_X4_closeLambdas
set_option maxRecDepth 20000 in
theorem ggX4_closeParenthesis_X4_endPart : GoodIn wsX4_closeParenthesis wsX4_endPart := goodIn_r _ [25, 1, 6, 14, 15, 16, 11, 17, 18, 19, 20, 21, 26, 27, 28, 29, 30, 31, 32, 33, 34, 35, 36, 37, 38, 39, 40] (by decide +kernel) (by decide +kernel)
set_option maxRecDepth 20000 in
theorem gX4_closeParenthesis_X4_endPart : GoodIn wsX4_closeParenthesis (wsV RX4 114 RX4 yX4_endPart wsX4_endPart) := goodIn_app (goodIn_of _ (by decide +kernel)) ggX4_closeParenthesis_X4_endPart
theorem dX4_closeParenthesis_0 : decode cX4_closeParenthesis 0 = .ok (.aload_n 0, 1) := by decide +kernel
theorem dX4_closeParenthesis_1 : decode cX4_closeParenthesis 1 = .ok (.getfield 65, 3) := by decide +kernel
theorem dX4_closeParenthesis_4 : decode cX4_closeParenthesis 4 = .ok (.ifCond .ne 9, 3) := by decide +kernel
theorem dX4_closeParenthesis_7 : decode cX4_closeParenthesis 7 = .ok (.aload_n 0, 1) := by decide +kernel
theorem dX4_closeParenthesis_8 : decode cX4_closeParenthesis 8 = .ok (.iconst 1, 1) := by decide +kernel
theorem dX4_closeParenthesis_9 : decode cX4_closeParenthesis 9 = .ok (.putfield 44, 3) := by decide +kernel
theorem dX4_closeParenthesis_12 : decode cX4_closeParenthesis 12 = .ok (.return_, 1) := by decide +kernel
theorem dX4_closeParenthesis_13 : decode cX4_closeParenthesis 13 = .ok (.aload_n 0, 1) := by decide +kernel
theorem dX4_closeParenthesis_14 : decode cX4_closeParenthesis 14 = .ok (.invokevirtual 111, 3) := by decide +kernel
theorem dX4_closeParenthesis_17 : decode cX4_closeParenthesis 17 = .ok (.aload_n 0, 1) := by decide +kernel
theorem dX4_closeParenthesis_18 : decode cX4_closeParenthesis 18 = .ok (.getfield 56, 3) := by decide +kernel
theorem dX4_closeParenthesis_21 : decode cX4_closeParenthesis 21 = .ok (.ifCond .ne 9, 3) := by decide +kernel
theorem dX4_closeParenthesis_24 : decode cX4_closeParenthesis 24 = .ok (.aload_n 0, 1) := by decide +kernel
theorem dX4_closeParenthesis_25 : decode cX4_closeParenthesis 25 = .ok (.iconst 1, 1) := by decide +kernel
theorem dX4_closeParenthesis_26 : decode cX4_closeParenthesis 26 = .ok (.putfield 44, 3) := by decide +kernel
theorem dX4_closeParenthesis_29 : decode cX4_closeParenthesis 29 = .ok (.return_, 1) := by decide +kernel
theorem dX4_closeParenthesis_30 : decode cX4_closeParenthesis 30 = .ok (.aload_n 0, 1) := by decide +kernel
theorem dX4_closeParenthesis_31 : decode cX4_closeParenthesis 31 = .ok (.dup, 1) := by decide +kernel
theorem dX4_closeParenthesis_32 : decode cX4_closeParenthesis 32 = .ok (.getfield 41, 3) := by decide +kernel
theorem dX4_closeParenthesis_35 : decode cX4_closeParenthesis 35 = .ok (.iconst 1, 1) := by decide +kernel
theorem dX4_closeParenthesis_36 : decode cX4_closeParenthesis 36 = .ok (.iadd, 1) := by decide +kernel
theorem dX4_closeParenthesis_37 : decode cX4_closeParenthesis 37 = .ok (.putfield 41, 3) := by decide +kernel
theorem dX4_closeParenthesis_40 : decode cX4_closeParenthesis 40 = .ok (.aload_n 0, 1) := by decide +kernel
theorem dX4_closeParenthesis_41 : decode cX4_closeParenthesis 41 = .ok (.dup, 1) := by decide +kernel
theorem dX4_closeParenthesis_42 : decode cX4_closeParenthesis 42 = .ok (.getfield 56, 3) := by decide +kernel
theorem dX4_closeParenthesis_45 : decode cX4_closeParenthesis 45 = .ok (.iconst 1, 1) := by decide +kernel
theorem dX4_closeParenthesis_46 : decode cX4_closeParenthesis 46 = .ok (.isub, 1) := by decide +kernel
theorem dX4_closeParenthesis_47 : decode cX4_closeParenthesis 47 = .ok (.putfield 56, 3) := by decide +kernel
theorem dX4_closeParenthesis_50 : decode cX4_closeParenthesis 50 = .ok (.aload_n 0, 1) := by decide +kernel
theorem dX4_closeParenthesis_51 : decode cX4_closeParenthesis 51 = .ok (.aload_n 0, 1) := by decide +kernel
theorem dX4_closeParenthesis_52 : decode cX4_closeParenthesis 52 = .ok (.getfield 24, 3) := by decide +kernel
theorem dX4_closeParenthesis_55 : decode cX4_closeParenthesis 55 = .ok (.aload_n 0, 1) := by decide +kernel
theorem dX4_closeParenthesis_56 : decode cX4_closeParenthesis 56 = .ok (.getfield 56, 3) := by decide +kernel
theorem dX4_closeParenthesis_59 : decode cX4_closeParenthesis 59 = .ok (.iaload, 1) := by decide +kernel
theorem dX4_closeParenthesis_60 : decode cX4_closeParenthesis 60 = .ok (.putfield 62, 3) := by decide +kernel
theorem dX4_closeParenthesis_63 : decode cX4_closeParenthesis 63 = .ok (.aload_n 0, 1) := by decide +kernel
theorem dX4_closeParenthesis_64 : decode cX4_closeParenthesis 64 = .ok (.aload_n 0, 1) := by decide +kernel
theorem dX4_closeParenthesis_65 : decode cX4_closeParenthesis 65 = .ok (.getfield 27, 3) := by decide +kernel
theorem dX4_closeParenthesis_68 : decode cX4_closeParenthesis 68 = .ok (.aload_n 0, 1) := by decide +kernel
theorem dX4_closeParenthesis_69 : decode cX4_closeParenthesis 69 = .ok (.getfield 56, 3) := by decide +kernel
theorem dX4_closeParenthesis_72 : decode cX4_closeParenthesis 72 = .ok (.iaload, 1) := by decide +kernel
theorem dX4_closeParenthesis_73 : decode cX4_closeParenthesis 73 = .ok (.putfield 65, 3) := by decide +kernel
theorem dX4_closeParenthesis_76 : decode cX4_closeParenthesis 76 = .ok (.aload_n 0, 1) := by decide +kernel
theorem dX4_closeParenthesis_77 : decode cX4_closeParenthesis 77 = .ok (.invokevirtual 114, 3) := by decide +kernel
theorem dX4_closeParenthesis_80 : decode cX4_closeParenthesis 80 = .ok (.return_, 1) := by decide +kernel
set_option maxRecDepth 20000 in
theorem ggX4_takeVariable_X4_nameSize : GoodIn wsX4_takeVariable wsX4_nameSize := goodIn_r _ [7, 2, 8, 9, 10, 11, 6, 12, 13, 14, 15, 16, 17, 18, 19, 53, 54, 55, 56, 57, 58, 59, 60, 61, 62, 63, 64, 65, 66, 67] (by decide +kernel) (by decide +kernel)
set_option maxRecDepth 20000 in
theorem gX4_takeVariable_X4_nameSize : GoodIn wsX4_takeVariable (wsV RX4 94 RX4 yX4_nameSize wsX4_nameSize) := goodIn_app (goodIn_of _ (by decide +kernel)) ggX4_takeVariable_X4_nameSize
set_option maxRecDepth 20000 in
theorem ggX4_takeVariable_X4_nameOf : GoodIn wsX4_takeVariable wsX4_nameOf := goodIn_r _ [23, 2, 9, 10, 11, 6, 12, 8, 13, 53, 54, 55, 56, 57, 58, 59, 60, 61, 62, 63, 64, 65, 66, 67] (by decide +kernel) (by decide +kernel)
set_option maxRecDepth 20000 in
theorem gX4_takeVariable_X4_nameOf : GoodIn wsX4_takeVariable (wsV RX4 101 RX4 yX4_nameOf wsX4_nameOf) := goodIn_app (goodIn_of _ (by decide +kernel)) ggX4_takeVariable_X4_nameOf
set_option maxRecDepth 20000 in
theorem ggX4_takeVariable_X4_slotOf : GoodIn wsX4_takeVariable wsX4_slotOf := goodIn_r _ [27, 28, 29, 53, 54, 55, 56, 57, 58, 59, 60, 61, 62, 63, 64, 65, 66, 67] (by decide +kernel) (by decide +kernel)
set_option maxRecDepth 20000 in
theorem gX4_takeVariable_X4_slotOf : GoodIn wsX4_takeVariable (wsV RX4 117 RX4 yX4_slotOf wsX4_slotOf) := goodIn_app (goodIn_of _ (by decide +kernel)) ggX4_takeVariable_X4_slotOf
set_option maxRecDepth 20000 in
theorem ggX4_takeVariable_X4_countName : GoodIn wsX4_takeVariable wsX4_countName := goodIn_r _ [33, 34, 53, 54, 55, 56, 57, 58, 59, 60, 61, 62, 63, 64, 65, 66, 67] (by decide +kernel) (by decide +kernel)
set_option maxRecDepth 20000 in
theorem gX4_takeVariable_X4_countName : GoodIn wsX4_takeVariable (wsV RX4 98 RX4 yX4_countName wsX4_countName) := goodIn_app (goodIn_of _ (by decide +kernel)) ggX4_takeVariable_X4_countName
set_option maxRecDepth 20000 in
theorem ggX4_takeVariable_X4_partIndex : GoodIn wsX4_takeVariable wsX4_partIndex := goodIn_r _ [38, 39, 40, 53, 54, 55, 56, 57, 58, 59, 60, 61, 62, 63, 64, 65, 66, 67] (by decide +kernel) (by decide +kernel)
set_option maxRecDepth 20000 in
theorem gX4_takeVariable_X4_partIndex : GoodIn wsX4_takeVariable (wsV RX4 108 RX4 yX4_partIndex wsX4_partIndex) := goodIn_app (goodIn_of _ (by decide +kernel)) ggX4_takeVariable_X4_partIndex
set_option maxRecDepth 20000 in
theorem ggX4_takeVariable_X4_addWord : GoodIn wsX4_takeVariable wsX4_addWord := goodIn_r _ [44, 45, 46, 47, 48, 53, 54, 55, 56, 57, 58, 59, 60, 61, 62, 63, 64, 65, 66, 67] (by decide +kernel) (by decide +kernel)
set_option maxRecDepth 20000 in
theorem gX4_takeVariable_X4_addWord : GoodIn wsX4_takeVariable (wsV RX4 120 RX4 yX4_addWord wsX4_addWord) := goodIn_app (goodIn_of _ (by decide +kernel)) ggX4_takeVariable_X4_addWord
set_option maxRecDepth 20000 in
theorem ggX4_takeVariable_X4_endPart : GoodIn wsX4_takeVariable wsX4_endPart := goodIn_r _ [52, 39, 40, 41, 42, 43, 6, 44, 45, 46, 47, 48, 53, 54, 55, 56, 57, 58, 59, 60, 61, 62, 63, 64, 65, 66, 67] (by decide +kernel) (by decide +kernel)
set_option maxRecDepth 20000 in
theorem gX4_takeVariable_X4_endPart : GoodIn wsX4_takeVariable (wsV RX4 114 RX4 yX4_endPart wsX4_endPart) := goodIn_app (goodIn_of _ (by decide +kernel)) ggX4_takeVariable_X4_endPart
theorem dX4_takeVariable_0 : decode cX4_takeVariable 0 = .ok (.aload_n 0, 1) := by decide +kernel
theorem dX4_takeVariable_1 : decode cX4_takeVariable 1 = .ok (.invokevirtual 94, 3) := by decide +kernel
theorem dX4_takeVariable_4 : decode cX4_takeVariable 4 = .ok (.istore_n 1, 1) := by decide +kernel
theorem dX4_takeVariable_5 : decode cX4_takeVariable 5 = .ok (.iload_n 1, 1) := by decide +kernel
theorem dX4_takeVariable_6 : decode cX4_takeVariable 6 = .ok (.iconst 4, 1) := by decide +kernel
theorem dX4_takeVariable_7 : decode cX4_takeVariable 7 = .ok (.if_icmp .le 9, 3) := by decide +kernel
theorem dX4_takeVariable_10 : decode cX4_takeVariable 10 = .ok (.aload_n 0, 1) := by decide +kernel
theorem dX4_takeVariable_11 : decode cX4_takeVariable 11 = .ok (.iconst 1, 1) := by decide +kernel
theorem dX4_takeVariable_12 : decode cX4_takeVariable 12 = .ok (.putfield 44, 3) := by decide +kernel
theorem dX4_takeVariable_15 : decode cX4_takeVariable 15 = .ok (.return_, 1) := by decide +kernel
theorem dX4_takeVariable_16 : decode cX4_takeVariable 16 = .ok (.aload_n 0, 1) := by decide +kernel
theorem dX4_takeVariable_17 : decode cX4_takeVariable 17 = .ok (.aload_n 0, 1) := by decide +kernel
theorem dX4_takeVariable_18 : decode cX4_takeVariable 18 = .ok (.iload_n 1, 1) := by decide +kernel
theorem dX4_takeVariable_19 : decode cX4_takeVariable 19 = .ok (.invokevirtual 101, 3) := by decide +kernel
theorem dX4_takeVariable_22 : decode cX4_takeVariable 22 = .ok (.invokevirtual 117, 3) := by decide +kernel
theorem dX4_takeVariable_25 : decode cX4_takeVariable 25 = .ok (.istore_n 2, 1) := by decide +kernel
theorem dX4_takeVariable_26 : decode cX4_takeVariable 26 = .ok (.iload_n 2, 1) := by decide +kernel
theorem dX4_takeVariable_27 : decode cX4_takeVariable 27 = .ok (.iconst (-1), 1) := by decide +kernel
theorem dX4_takeVariable_28 : decode cX4_takeVariable 28 = .ok (.if_icmp .ne 9, 3) := by decide +kernel
theorem dX4_takeVariable_31 : decode cX4_takeVariable 31 = .ok (.aload_n 0, 1) := by decide +kernel
theorem dX4_takeVariable_32 : decode cX4_takeVariable 32 = .ok (.iconst 2, 1) := by decide +kernel
theorem dX4_takeVariable_33 : decode cX4_takeVariable 33 = .ok (.putfield 44, 3) := by decide +kernel
theorem dX4_takeVariable_36 : decode cX4_takeVariable 36 = .ok (.return_, 1) := by decide +kernel
theorem dX4_takeVariable_37 : decode cX4_takeVariable 37 = .ok (.aload_n 0, 1) := by decide +kernel
theorem dX4_takeVariable_38 : decode cX4_takeVariable 38 = .ok (.aload_n 0, 1) := by decide +kernel
theorem dX4_takeVariable_39 : decode cX4_takeVariable 39 = .ok (.invokevirtual 98, 3) := by decide +kernel
theorem dX4_takeVariable_42 : decode cX4_takeVariable 42 = .ok (.putfield 44, 3) := by decide +kernel
theorem dX4_takeVariable_45 : decode cX4_takeVariable 45 = .ok (.aload_n 0, 1) := by decide +kernel
theorem dX4_takeVariable_46 : decode cX4_takeVariable 46 = .ok (.getfield 44, 3) := by decide +kernel
theorem dX4_takeVariable_49 : decode cX4_takeVariable 49 = .ok (.ifCond .eq 4, 3) := by decide +kernel
theorem dX4_takeVariable_52 : decode cX4_takeVariable 52 = .ok (.return_, 1) := by decide +kernel
theorem dX4_takeVariable_53 : decode cX4_takeVariable 53 = .ok (.aload_n 0, 1) := by decide +kernel
theorem dX4_takeVariable_54 : decode cX4_takeVariable 54 = .ok (.dup, 1) := by decide +kernel
theorem dX4_takeVariable_55 : decode cX4_takeVariable 55 = .ok (.getfield 41, 3) := by decide +kernel
theorem dX4_takeVariable_58 : decode cX4_takeVariable 58 = .ok (.iload_n 1, 1) := by decide +kernel
theorem dX4_takeVariable_59 : decode cX4_takeVariable 59 = .ok (.iadd, 1) := by decide +kernel
theorem dX4_takeVariable_60 : decode cX4_takeVariable 60 = .ok (.putfield 41, 3) := by decide +kernel
theorem dX4_takeVariable_63 : decode cX4_takeVariable 63 = .ok (.aload_n 0, 1) := by decide +kernel
theorem dX4_takeVariable_64 : decode cX4_takeVariable 64 = .ok (.iconst 0, 1) := by decide +kernel
theorem dX4_takeVariable_65 : decode cX4_takeVariable 65 = .ok (.aload_n 0, 1) := by decide +kernel
theorem dX4_takeVariable_66 : decode cX4_takeVariable 66 = .ok (.invokevirtual 108, 3) := by decide +kernel
theorem dX4_takeVariable_69 : decode cX4_takeVariable 69 = .ok (.iload_n 2, 1) := by decide +kernel
theorem dX4_takeVariable_70 : decode cX4_takeVariable 70 = .ok (.invokevirtual 120, 3) := by decide +kernel
theorem dX4_takeVariable_73 : decode cX4_takeVariable 73 = .ok (.aload_n 0, 1) := by decide +kernel
theorem dX4_takeVariable_74 : decode cX4_takeVariable 74 = .ok (.invokevirtual 114, 3) := by decide +kernel
theorem dX4_takeVariable_77 : decode cX4_takeVariable 77 = .ok (.return_, 1) := by decide +kernel
set_option maxRecDepth 20000 in
theorem ggX4_endText_X4_closeLambdas : GoodIn wsX4_endText wsX4_closeLambdas := goodIn_r _ [8, 3, 9, 10, 11, 12, 13, 7, 14, 15, 16, 17, 18, 19, 20, 21, 22, 23, 24, 25, 26, 27, 28, 29, 30, 31, 32, 33] (by decide +kernel) (by decide +kernel)
set_option maxRecDepth 20000 in
theorem gX4_endText_X4_closeLambdas : GoodIn wsX4_endText (wsV RX4 111 RX4 yX4_closeLambdas wsX4_closeLambdas) := goodIn_app (goodIn_of _ (by decide +kernel)) ggX4_endText_X4_closeLambdas
theorem dX4_endText_0 : decode cX4_endText 0 = .ok (.aload_n 0, 1) := by decide +kernel
theorem dX4_endText_1 : decode cX4_endText 1 = .ok (.getfield 65, 3) := by decide +kernel
theorem dX4_endText_4 : decode cX4_endText 4 = .ok (.ifCond .ne 9, 3) := by decide +kernel
theorem dX4_endText_7 : decode cX4_endText 7 = .ok (.aload_n 0, 1) := by decide +kernel
theorem dX4_endText_8 : decode cX4_endText 8 = .ok (.iconst 1, 1) := by decide +kernel
theorem dX4_endText_9 : decode cX4_endText 9 = .ok (.putfield 44, 3) := by decide +kernel
theorem dX4_endText_12 : decode cX4_endText 12 = .ok (.return_, 1) := by decide +kernel
theorem dX4_endText_13 : decode cX4_endText 13 = .ok (.aload_n 0, 1) := by decide +kernel
theorem dX4_endText_14 : decode cX4_endText 14 = .ok (.invokevirtual 111, 3) := by decide +kernel
theorem dX4_endText_17 : decode cX4_endText 17 = .ok (.aload_n 0, 1) := by decide +kernel
theorem dX4_endText_18 : decode cX4_endText 18 = .ok (.getfield 56, 3) := by decide +kernel
theorem dX4_endText_21 : decode cX4_endText 21 = .ok (.ifCond .le 8, 3) := by decide +kernel
theorem dX4_endText_24 : decode cX4_endText 24 = .ok (.aload_n 0, 1) := by decide +kernel
theorem dX4_endText_25 : decode cX4_endText 25 = .ok (.iconst 1, 1) := by decide +kernel
theorem dX4_endText_26 : decode cX4_endText 26 = .ok (.putfield 44, 3) := by decide +kernel
theorem dX4_endText_29 : decode cX4_endText 29 = .ok (.return_, 1) := by decide +kernel
set_option maxRecDepth 20000 in
theorem ggX4_closeLambdas_X4_addWord : GoodIn wsX4_closeLambdas wsX4_addWord := goodIn_r _ [8, 9, 10, 11, 12, 13, 14, 15, 16, 17, 18, 19, 20, 21, 22, 23, 24, 25, 26, 27] (by decide +kernel) (by decide +kernel)
set_option maxRecDepth 20000 in
theorem gX4_closeLambdas_X4_addWord : GoodIn wsX4_closeLambdas (wsV RX4 120 RX4 yX4_addWord wsX4_addWord) := goodIn_app (goodIn_of _ (by decide +kernel)) ggX4_closeLambdas_X4_addWord
theorem dX4_closeLambdas_0 : decode cX4_closeLambdas 0 = .ok (.aload_n 0, 1) := by decide +kernel
theorem dX4_closeLambdas_1 : decode cX4_closeLambdas 1 = .ok (.getfield 56, 3) := by decide +kernel
theorem dX4_closeLambdas_4 : decode cX4_closeLambdas 4 = .ok (.ifCond .le 43, 3) := by decide +kernel
theorem dX4_closeLambdas_7 : decode cX4_closeLambdas 7 = .ok (.aload_n 0, 1) := by decide +kernel
theorem dX4_closeLambdas_8 : decode cX4_closeLambdas 8 = .ok (.getfield 21, 3) := by decide +kernel
theorem dX4_closeLambdas_11 : decode cX4_closeLambdas 11 = .ok (.aload_n 0, 1) := by decide +kernel
theorem dX4_closeLambdas_12 : decode cX4_closeLambdas 12 = .ok (.getfield 56, 3) := by decide +kernel
theorem dX4_closeLambdas_15 : decode cX4_closeLambdas 15 = .ok (.iconst 1, 1) := by decide +kernel
theorem dX4_closeLambdas_16 : decode cX4_closeLambdas 16 = .ok (.isub, 1) := by decide +kernel
theorem dX4_closeLambdas_17 : decode cX4_closeLambdas 17 = .ok (.iaload, 1) := by decide +kernel
theorem dX4_closeLambdas_18 : decode cX4_closeLambdas 18 = .ok (.ifCond .eq 29, 3) := by decide +kernel
theorem dX4_closeLambdas_21 : decode cX4_closeLambdas 21 = .ok (.aload_n 0, 1) := by decide +kernel
theorem dX4_closeLambdas_22 : decode cX4_closeLambdas 22 = .ok (.dup, 1) := by decide +kernel
theorem dX4_closeLambdas_23 : decode cX4_closeLambdas 23 = .ok (.getfield 56, 3) := by decide +kernel
theorem dX4_closeLambdas_26 : decode cX4_closeLambdas 26 = .ok (.iconst 1, 1) := by decide +kernel
theorem dX4_closeLambdas_27 : decode cX4_closeLambdas 27 = .ok (.isub, 1) := by decide +kernel
theorem dX4_closeLambdas_28 : decode cX4_closeLambdas 28 = .ok (.putfield 56, 3) := by decide +kernel
theorem dX4_closeLambdas_31 : decode cX4_closeLambdas 31 = .ok (.aload_n 0, 1) := by decide +kernel
theorem dX4_closeLambdas_32 : decode cX4_closeLambdas 32 = .ok (.iconst 1, 1) := by decide +kernel
theorem dX4_closeLambdas_33 : decode cX4_closeLambdas 33 = .ok (.aload_n 0, 1) := by decide +kernel
theorem dX4_closeLambdas_34 : decode cX4_closeLambdas 34 = .ok (.getfield 62, 3) := by decide +kernel
theorem dX4_closeLambdas_37 : decode cX4_closeLambdas 37 = .ok (.aload_n 0, 1) := by decide +kernel
theorem dX4_closeLambdas_38 : decode cX4_closeLambdas 38 = .ok (.getfield 56, 3) := by decide +kernel
theorem dX4_closeLambdas_41 : decode cX4_closeLambdas 41 = .ok (.invokevirtual 120, 3) := by decide +kernel
theorem dX4_closeLambdas_44 : decode cX4_closeLambdas 44 = .ok (.goto (-44), 3) := by decide +kernel
theorem dX4_closeLambdas_47 : decode cX4_closeLambdas 47 = .ok (.return_, 1) := by decide +kernel
set_option maxRecDepth 20000 in
theorem ggX4_endPart_X4_addWord : GoodIn wsX4_endPart wsX4_addWord := goodIn_r _ [7, 8, 9, 10, 11, 12, 13, 14, 15, 16, 17, 18, 19, 20, 21, 22, 23, 24, 25, 26] (by decide +kernel) (by decide +kernel)
set_option maxRecDepth 20000 in
theorem gX4_endPart_X4_addWord : GoodIn wsX4_endPart (wsV RX4 120 RX4 yX4_addWord wsX4_addWord) := goodIn_app (goodIn_of _ (by decide +kernel)) ggX4_endPart_X4_addWord
theorem dX4_endPart_0 : decode cX4_endPart 0 = .ok (.aload_n 0, 1) := by decide +kernel
theorem dX4_endPart_1 : decode cX4_endPart 1 = .ok (.dup, 1) := by decide +kernel
theorem dX4_endPart_2 : decode cX4_endPart 2 = .ok (.getfield 65, 3) := by decide +kernel
theorem dX4_endPart_5 : decode cX4_endPart 5 = .ok (.iconst 1, 1) := by decide +kernel
theorem dX4_endPart_6 : decode cX4_endPart 6 = .ok (.iadd, 1) := by decide +kernel
theorem dX4_endPart_7 : decode cX4_endPart 7 = .ok (.putfield 65, 3) := by decide +kernel
theorem dX4_endPart_10 : decode cX4_endPart 10 = .ok (.aload_n 0, 1) := by decide +kernel
theorem dX4_endPart_11 : decode cX4_endPart 11 = .ok (.getfield 65, 3) := by decide +kernel
theorem dX4_endPart_14 : decode cX4_endPart 14 = .ok (.iconst 1, 1) := by decide +kernel
theorem dX4_endPart_15 : decode cX4_endPart 15 = .ok (.if_icmp .le 13, 3) := by decide +kernel
theorem dX4_endPart_18 : decode cX4_endPart 18 = .ok (.aload_n 0, 1) := by decide +kernel
theorem dX4_endPart_19 : decode cX4_endPart 19 = .ok (.iconst 2, 1) := by decide +kernel
theorem dX4_endPart_20 : decode cX4_endPart 20 = .ok (.aload_n 0, 1) := by decide +kernel
theorem dX4_endPart_21 : decode cX4_endPart 21 = .ok (.getfield 62, 3) := by decide +kernel
theorem dX4_endPart_24 : decode cX4_endPart 24 = .ok (.iconst (-1), 1) := by decide +kernel
theorem dX4_endPart_25 : decode cX4_endPart 25 = .ok (.invokevirtual 120, 3) := by decide +kernel
theorem dX4_endPart_28 : decode cX4_endPart 28 = .ok (.return_, 1) := by decide +kernel
theorem dX4_partIndex_0 : decode cX4_partIndex 0 = .ok (.aload_n 0, 1) := by decide +kernel
theorem dX4_partIndex_1 : decode cX4_partIndex 1 = .ok (.getfield 65, 3) := by decide +kernel
theorem dX4_partIndex_4 : decode cX4_partIndex 4 = .ok (.ifCond .ne 10, 3) := by decide +kernel
theorem dX4_partIndex_7 : decode cX4_partIndex 7 = .ok (.aload_n 0, 1) := by decide +kernel
theorem dX4_partIndex_8 : decode cX4_partIndex 8 = .ok (.getfield 62, 3) := by decide +kernel
theorem dX4_partIndex_11 : decode cX4_partIndex 11 = .ok (.goto 9, 3) := by decide +kernel
theorem dX4_partIndex_14 : decode cX4_partIndex 14 = .ok (.aload_n 0, 1) := by decide +kernel
theorem dX4_partIndex_15 : decode cX4_partIndex 15 = .ok (.getfield 62, 3) := by decide +kernel
theorem dX4_partIndex_18 : decode cX4_partIndex 18 = .ok (.iconst 1, 1) := by decide +kernel
theorem dX4_partIndex_19 : decode cX4_partIndex 19 = .ok (.iadd, 1) := by decide +kernel
theorem dX4_partIndex_20 : decode cX4_partIndex 20 = .ok (.ireturn, 1) := by decide +kernel
theorem dX4_push_0 : decode cX4_push 0 = .ok (.aload_n 0, 1) := by decide +kernel
theorem dX4_push_1 : decode cX4_push 1 = .ok (.getfield 56, 3) := by decide +kernel
theorem dX4_push_4 : decode cX4_push 4 = .ok (.bipush 40, 2) := by decide +kernel
theorem dX4_push_6 : decode cX4_push 6 = .ok (.if_icmp .ge 49, 3) := by decide +kernel
theorem dX4_push_9 : decode cX4_push 9 = .ok (.aload_n 0, 1) := by decide +kernel
theorem dX4_push_10 : decode cX4_push 10 = .ok (.getfield 21, 3) := by decide +kernel
theorem dX4_push_13 : decode cX4_push 13 = .ok (.aload_n 0, 1) := by decide +kernel
theorem dX4_push_14 : decode cX4_push 14 = .ok (.getfield 56, 3) := by decide +kernel
theorem dX4_push_17 : decode cX4_push 17 = .ok (.iload_n 1, 1) := by decide +kernel
theorem dX4_push_18 : decode cX4_push 18 = .ok (.iastore, 1) := by decide +kernel
theorem dX4_push_19 : decode cX4_push 19 = .ok (.aload_n 0, 1) := by decide +kernel
theorem dX4_push_20 : decode cX4_push 20 = .ok (.getfield 24, 3) := by decide +kernel
theorem dX4_push_23 : decode cX4_push 23 = .ok (.aload_n 0, 1) := by decide +kernel
theorem dX4_push_24 : decode cX4_push 24 = .ok (.getfield 56, 3) := by decide +kernel
theorem dX4_push_27 : decode cX4_push 27 = .ok (.aload_n 0, 1) := by decide +kernel
theorem dX4_push_28 : decode cX4_push 28 = .ok (.getfield 62, 3) := by decide +kernel
theorem dX4_push_31 : decode cX4_push 31 = .ok (.iastore, 1) := by decide +kernel
theorem dX4_push_32 : decode cX4_push 32 = .ok (.aload_n 0, 1) := by decide +kernel
theorem dX4_push_33 : decode cX4_push 33 = .ok (.getfield 27, 3) := by decide +kernel
theorem dX4_push_36 : decode cX4_push 36 = .ok (.aload_n 0, 1) := by decide +kernel
theorem dX4_push_37 : decode cX4_push 37 = .ok (.getfield 56, 3) := by decide +kernel
theorem dX4_push_40 : decode cX4_push 40 = .ok (.aload_n 0, 1) := by decide +kernel
theorem dX4_push_41 : decode cX4_push 41 = .ok (.getfield 65, 3) := by decide +kernel
theorem dX4_push_44 : decode cX4_push 44 = .ok (.iastore, 1) := by decide +kernel
theorem dX4_push_45 : decode cX4_push 45 = .ok (.aload_n 0, 1) := by decide +kernel
theorem dX4_push_46 : decode cX4_push 46 = .ok (.dup, 1) := by decide +kernel
theorem dX4_push_47 : decode cX4_push 47 = .ok (.getfield 56, 3) := by decide +kernel
theorem dX4_push_50 : decode cX4_push 50 = .ok (.iconst 1, 1) := by decide +kernel
theorem dX4_push_51 : decode cX4_push 51 = .ok (.iadd, 1) := by decide +kernel
theorem dX4_push_52 : decode cX4_push 52 = .ok (.putfield 56, 3) := by decide +kernel
theorem dX4_push_55 : decode cX4_push 55 = .ok (.return_, 1) := by decide +kernel
theorem dX4_addWord_0 : decode cX4_addWord 0 = .ok (.aload_n 0, 1) := by decide +kernel
theorem dX4_addWord_1 : decode cX4_addWord 1 = .ok (.getfield 53, 3) := by decide +kernel
theorem dX4_addWord_4 : decode cX4_addWord 4 = .ok (.sipush 162, 3) := by decide +kernel
theorem dX4_addWord_7 : decode cX4_addWord 7 = .ok (.if_icmp .ge 43, 3) := by decide +kernel
theorem dX4_addWord_10 : decode cX4_addWord 10 = .ok (.aload_n 0, 1) := by decide +kernel
theorem dX4_addWord_11 : decode cX4_addWord 11 = .ok (.getfield 11, 3) := by decide +kernel
theorem dX4_addWord_14 : decode cX4_addWord 14 = .ok (.aload_n 0, 1) := by decide +kernel
theorem dX4_addWord_15 : decode cX4_addWord 15 = .ok (.getfield 53, 3) := by decide +kernel
theorem dX4_addWord_18 : decode cX4_addWord 18 = .ok (.iload_n 1, 1) := by decide +kernel
theorem dX4_addWord_19 : decode cX4_addWord 19 = .ok (.iastore, 1) := by decide +kernel
theorem dX4_addWord_20 : decode cX4_addWord 20 = .ok (.aload_n 0, 1) := by decide +kernel
theorem dX4_addWord_21 : decode cX4_addWord 21 = .ok (.getfield 15, 3) := by decide +kernel
theorem dX4_addWord_24 : decode cX4_addWord 24 = .ok (.aload_n 0, 1) := by decide +kernel
theorem dX4_addWord_25 : decode cX4_addWord 25 = .ok (.getfield 53, 3) := by decide +kernel
theorem dX4_addWord_28 : decode cX4_addWord 28 = .ok (.iload_n 2, 1) := by decide +kernel
theorem dX4_addWord_29 : decode cX4_addWord 29 = .ok (.iastore, 1) := by decide +kernel
theorem dX4_addWord_30 : decode cX4_addWord 30 = .ok (.aload_n 0, 1) := by decide +kernel
theorem dX4_addWord_31 : decode cX4_addWord 31 = .ok (.getfield 18, 3) := by decide +kernel
theorem dX4_addWord_34 : decode cX4_addWord 34 = .ok (.aload_n 0, 1) := by decide +kernel
theorem dX4_addWord_35 : decode cX4_addWord 35 = .ok (.getfield 53, 3) := by decide +kernel
theorem dX4_addWord_38 : decode cX4_addWord 38 = .ok (.iload_n 3, 1) := by decide +kernel
theorem dX4_addWord_39 : decode cX4_addWord 39 = .ok (.iastore, 1) := by decide +kernel
theorem dX4_addWord_40 : decode cX4_addWord 40 = .ok (.aload_n 0, 1) := by decide +kernel
theorem dX4_addWord_41 : decode cX4_addWord 41 = .ok (.dup, 1) := by decide +kernel
theorem dX4_addWord_42 : decode cX4_addWord 42 = .ok (.getfield 53, 3) := by decide +kernel
theorem dX4_addWord_45 : decode cX4_addWord 45 = .ok (.iconst 1, 1) := by decide +kernel
theorem dX4_addWord_46 : decode cX4_addWord 46 = .ok (.iadd, 1) := by decide +kernel
theorem dX4_addWord_47 : decode cX4_addWord 47 = .ok (.putfield 53, 3) := by decide +kernel
theorem dX4_addWord_50 : decode cX4_addWord 50 = .ok (.return_, 1) := by decide +kernel
theorem dX4_slotOf_0 : decode cX4_slotOf 0 = .ok (.aload_n 0, 1) := by decide +kernel
theorem dX4_slotOf_1 : decode cX4_slotOf 1 = .ok (.getfield 56, 3) := by decide +kernel
theorem dX4_slotOf_4 : decode cX4_slotOf 4 = .ok (.iconst 1, 1) := by decide +kernel
theorem dX4_slotOf_5 : decode cX4_slotOf 5 = .ok (.isub, 1) := by decide +kernel
theorem dX4_slotOf_6 : decode cX4_slotOf 6 = .ok (.istore_n 2, 1) := by decide +kernel
theorem dX4_slotOf_7 : decode cX4_slotOf 7 = .ok (.iload_n 2, 1) := by decide +kernel
theorem dX4_slotOf_8 : decode cX4_slotOf 8 = .ok (.ifCond .lt 21, 3) := by decide +kernel
theorem dX4_slotOf_11 : decode cX4_slotOf 11 = .ok (.aload_n 0, 1) := by decide +kernel
theorem dX4_slotOf_12 : decode cX4_slotOf 12 = .ok (.getfield 21, 3) := by decide +kernel
theorem dX4_slotOf_15 : decode cX4_slotOf 15 = .ok (.iload_n 2, 1) := by decide +kernel
theorem dX4_slotOf_16 : decode cX4_slotOf 16 = .ok (.iaload, 1) := by decide +kernel
theorem dX4_slotOf_17 : decode cX4_slotOf 17 = .ok (.iload_n 1, 1) := by decide +kernel
theorem dX4_slotOf_18 : decode cX4_slotOf 18 = .ok (.if_icmp .ne 5, 3) := by decide +kernel
theorem dX4_slotOf_21 : decode cX4_slotOf 21 = .ok (.iload_n 2, 1) := by decide +kernel
theorem dX4_slotOf_22 : decode cX4_slotOf 22 = .ok (.ireturn, 1) := by decide +kernel
theorem dX4_slotOf_23 : decode cX4_slotOf 23 = .ok (.iinc 2 (-1), 3) := by decide +kernel
theorem dX4_slotOf_26 : decode cX4_slotOf 26 = .ok (.goto (-19), 3) := by decide +kernel
theorem dX4_slotOf_29 : decode cX4_slotOf 29 = .ok (.iconst (-1), 1) := by decide +kernel
theorem dX4_slotOf_30 : decode cX4_slotOf 30 = .ok (.ireturn, 1) := by decide +kernel
theorem dX4_countName_0 : decode cX4_countName 0 = .ok (.aload_n 0, 1) := by decide +kernel
theorem dX4_countName_1 : decode cX4_countName 1 = .ok (.dup, 1) := by decide +kernel
theorem dX4_countName_2 : decode cX4_countName 2 = .ok (.getfield 59, 3) := by decide +kernel
theorem dX4_countName_5 : decode cX4_countName 5 = .ok (.iconst 1, 1) := by decide +kernel
theorem dX4_countName_6 : decode cX4_countName 6 = .ok (.iadd, 1) := by decide +kernel
theorem dX4_countName_7 : decode cX4_countName 7 = .ok (.putfield 59, 3) := by decide +kernel
theorem dX4_countName_10 : decode cX4_countName 10 = .ok (.aload_n 0, 1) := by decide +kernel
theorem dX4_countName_11 : decode cX4_countName 11 = .ok (.getfield 59, 3) := by decide +kernel
theorem dX4_countName_14 : decode cX4_countName 14 = .ok (.bipush 80, 2) := by decide +kernel
theorem dX4_countName_16 : decode cX4_countName 16 = .ok (.if_icmp .le 7, 3) := by decide +kernel
theorem dX4_countName_19 : decode cX4_countName 19 = .ok (.iconst 4, 1) := by decide +kernel
theorem dX4_countName_20 : decode cX4_countName 20 = .ok (.goto 4, 3) := by decide +kernel
theorem dX4_countName_23 : decode cX4_countName 23 = .ok (.iconst 0, 1) := by decide +kernel
theorem dX4_countName_24 : decode cX4_countName 24 = .ok (.ireturn, 1) := by decide +kernel
set_option maxRecDepth 20000 in
theorem ggX4_nameSize_X4_byteAt : GoodIn wsX4_nameSize wsX4_byteAt := goodIn_r _ [7, 2, 8, 15, 16, 17, 18, 19, 20, 21, 22, 23, 24, 25, 26, 27, 28, 29] (by decide +kernel) (by decide +kernel)
set_option maxRecDepth 20000 in
theorem gX4_nameSize_X4_byteAt : GoodIn wsX4_nameSize (wsV RX4 68 RX4 yX4_byteAt wsX4_byteAt) := goodIn_app (goodIn_of _ (by decide +kernel)) ggX4_nameSize_X4_byteAt
set_option maxRecDepth 20000 in
theorem ggX4_nameSize_X4_isLetter : GoodIn wsX4_nameSize wsX4_isLetter := goodIn_r _ [11] (by decide +kernel) (by decide +kernel)
set_option maxRecDepth 20000 in
theorem gX4_nameSize_X4_isLetter : GoodIn wsX4_nameSize (va_wsS RX4 85 yX4_isLetter wsX4_isLetter) := goodIn_app (goodIn_of _ (by decide +kernel)) ggX4_nameSize_X4_isLetter
set_option maxRecDepth 20000 in
theorem ggX4_nameSize_X4_isDigit : GoodIn wsX4_nameSize wsX4_isDigit := goodIn_r _ [14] (by decide +kernel) (by decide +kernel)
set_option maxRecDepth 20000 in
theorem gX4_nameSize_X4_isDigit : GoodIn wsX4_nameSize (va_wsS RX4 124 yX4_isDigit wsX4_isDigit) := goodIn_app (goodIn_of _ (by decide +kernel)) ggX4_nameSize_X4_isDigit
theorem dX4_nameSize_0 : decode cX4_nameSize 0 = .ok (.aload_n 0, 1) := by decide +kernel
theorem dX4_nameSize_1 : decode cX4_nameSize 1 = .ok (.aload_n 0, 1) := by decide +kernel
theorem dX4_nameSize_2 : decode cX4_nameSize 2 = .ok (.getfield 41, 3) := by decide +kernel
theorem dX4_nameSize_5 : decode cX4_nameSize 5 = .ok (.invokevirtual 68, 3) := by decide +kernel
theorem dX4_nameSize_8 : decode cX4_nameSize 8 = .ok (.invokestatic 85, 3) := by decide +kernel
theorem dX4_nameSize_11 : decode cX4_nameSize 11 = .ok (.ifCond .ne 5, 3) := by decide +kernel
theorem dX4_nameSize_14 : decode cX4_nameSize 14 = .ok (.iconst 0, 1) := by decide +kernel
theorem dX4_nameSize_15 : decode cX4_nameSize 15 = .ok (.ireturn, 1) := by decide +kernel
theorem dX4_nameSize_16 : decode cX4_nameSize 16 = .ok (.aload_n 0, 1) := by decide +kernel
theorem dX4_nameSize_17 : decode cX4_nameSize 17 = .ok (.getfield 41, 3) := by decide +kernel
theorem dX4_nameSize_20 : decode cX4_nameSize 20 = .ok (.iconst 1, 1) := by decide +kernel
theorem dX4_nameSize_21 : decode cX4_nameSize 21 = .ok (.iadd, 1) := by decide +kernel
theorem dX4_nameSize_22 : decode cX4_nameSize 22 = .ok (.istore_n 1, 1) := by decide +kernel
theorem dX4_nameSize_23 : decode cX4_nameSize 23 = .ok (.iload_n 1, 1) := by decide +kernel
theorem dX4_nameSize_24 : decode cX4_nameSize 24 = .ok (.aload_n 0, 1) := by decide +kernel
theorem dX4_nameSize_25 : decode cX4_nameSize 25 = .ok (.getfield 37, 3) := by decide +kernel
theorem dX4_nameSize_28 : decode cX4_nameSize 28 = .ok (.if_icmp .ge 20, 3) := by decide +kernel
theorem dX4_nameSize_31 : decode cX4_nameSize 31 = .ok (.aload_n 0, 1) := by decide +kernel
theorem dX4_nameSize_32 : decode cX4_nameSize 32 = .ok (.iload_n 1, 1) := by decide +kernel
theorem dX4_nameSize_33 : decode cX4_nameSize 33 = .ok (.invokevirtual 68, 3) := by decide +kernel
theorem dX4_nameSize_36 : decode cX4_nameSize 36 = .ok (.invokestatic 124, 3) := by decide +kernel
theorem dX4_nameSize_39 : decode cX4_nameSize 39 = .ok (.ifCond .eq 9, 3) := by decide +kernel
theorem dX4_nameSize_42 : decode cX4_nameSize 42 = .ok (.iinc 1 1, 3) := by decide +kernel
theorem dX4_nameSize_45 : decode cX4_nameSize 45 = .ok (.goto (-22), 3) := by decide +kernel
theorem dX4_nameSize_48 : decode cX4_nameSize 48 = .ok (.iload_n 1, 1) := by decide +kernel
theorem dX4_nameSize_49 : decode cX4_nameSize 49 = .ok (.aload_n 0, 1) := by decide +kernel
theorem dX4_nameSize_50 : decode cX4_nameSize 50 = .ok (.getfield 41, 3) := by decide +kernel
theorem dX4_nameSize_53 : decode cX4_nameSize 53 = .ok (.isub, 1) := by decide +kernel
theorem dX4_nameSize_54 : decode cX4_nameSize 54 = .ok (.ireturn, 1) := by decide +kernel
set_option maxRecDepth 20000 in
theorem ggX4_nameOf_X4_byteAt : GoodIn wsX4_nameOf wsX4_byteAt := goodIn_r _ [6, 7, 8, 9, 10, 11, 12, 13, 14, 15, 16, 17, 18, 19, 20, 21, 22, 23] (by decide +kernel) (by decide +kernel)
set_option maxRecDepth 20000 in
theorem gX4_nameOf_X4_byteAt : GoodIn wsX4_nameOf (wsV RX4 68 RX4 yX4_byteAt wsX4_byteAt) := goodIn_app (goodIn_of _ (by decide +kernel)) ggX4_nameOf_X4_byteAt
theorem dX4_nameOf_0 : decode cX4_nameOf 0 = .ok (.iconst 0, 1) := by decide +kernel
theorem dX4_nameOf_1 : decode cX4_nameOf 1 = .ok (.istore_n 2, 1) := by decide +kernel
theorem dX4_nameOf_2 : decode cX4_nameOf 2 = .ok (.iconst 0, 1) := by decide +kernel
theorem dX4_nameOf_3 : decode cX4_nameOf 3 = .ok (.istore_n 3, 1) := by decide +kernel
theorem dX4_nameOf_4 : decode cX4_nameOf 4 = .ok (.iload_n 3, 1) := by decide +kernel
theorem dX4_nameOf_5 : decode cX4_nameOf 5 = .ok (.iload_n 1, 1) := by decide +kernel
theorem dX4_nameOf_6 : decode cX4_nameOf 6 = .ok (.if_icmp .ge 26, 3) := by decide +kernel
theorem dX4_nameOf_9 : decode cX4_nameOf 9 = .ok (.iload_n 2, 1) := by decide +kernel
theorem dX4_nameOf_10 : decode cX4_nameOf 10 = .ok (.sipush 256, 3) := by decide +kernel
theorem dX4_nameOf_13 : decode cX4_nameOf 13 = .ok (.imul, 1) := by decide +kernel
theorem dX4_nameOf_14 : decode cX4_nameOf 14 = .ok (.aload_n 0, 1) := by decide +kernel
theorem dX4_nameOf_15 : decode cX4_nameOf 15 = .ok (.aload_n 0, 1) := by decide +kernel
theorem dX4_nameOf_16 : decode cX4_nameOf 16 = .ok (.getfield 41, 3) := by decide +kernel
theorem dX4_nameOf_19 : decode cX4_nameOf 19 = .ok (.iload_n 3, 1) := by decide +kernel
theorem dX4_nameOf_20 : decode cX4_nameOf 20 = .ok (.iadd, 1) := by decide +kernel
theorem dX4_nameOf_21 : decode cX4_nameOf 21 = .ok (.invokevirtual 68, 3) := by decide +kernel
theorem dX4_nameOf_24 : decode cX4_nameOf 24 = .ok (.iadd, 1) := by decide +kernel
theorem dX4_nameOf_25 : decode cX4_nameOf 25 = .ok (.istore_n 2, 1) := by decide +kernel
theorem dX4_nameOf_26 : decode cX4_nameOf 26 = .ok (.iinc 3 1, 3) := by decide +kernel
theorem dX4_nameOf_29 : decode cX4_nameOf 29 = .ok (.goto (-25), 3) := by decide +kernel
theorem dX4_nameOf_32 : decode cX4_nameOf 32 = .ok (.iload_n 2, 1) := by decide +kernel
theorem dX4_nameOf_33 : decode cX4_nameOf 33 = .ok (.ireturn, 1) := by decide +kernel
set_option maxRecDepth 20000 in
theorem ggX4_skipBlanks_X4_byteAt : GoodIn wsX4_skipBlanks wsX4_byteAt := goodIn_r _ [7, 2, 8, 12, 13, 14, 15, 16, 17, 18, 19, 20, 21, 22, 23, 24, 25, 26] (by decide +kernel) (by decide +kernel)
set_option maxRecDepth 20000 in
theorem gX4_skipBlanks_X4_byteAt : GoodIn wsX4_skipBlanks (wsV RX4 68 RX4 yX4_byteAt wsX4_byteAt) := goodIn_app (goodIn_of _ (by decide +kernel)) ggX4_skipBlanks_X4_byteAt
set_option maxRecDepth 20000 in
theorem ggX4_skipBlanks_X4_isBlank : GoodIn wsX4_skipBlanks wsX4_isBlank := goodIn_r _ [11] (by decide +kernel) (by decide +kernel)
set_option maxRecDepth 20000 in
theorem gX4_skipBlanks_X4_isBlank : GoodIn wsX4_skipBlanks (va_wsS RX4 72 yX4_isBlank wsX4_isBlank) := goodIn_app (goodIn_of _ (by decide +kernel)) ggX4_skipBlanks_X4_isBlank
theorem dX4_skipBlanks_0 : decode cX4_skipBlanks 0 = .ok (.aload_n 0, 1) := by decide +kernel
theorem dX4_skipBlanks_1 : decode cX4_skipBlanks 1 = .ok (.getfield 41, 3) := by decide +kernel
theorem dX4_skipBlanks_4 : decode cX4_skipBlanks 4 = .ok (.aload_n 0, 1) := by decide +kernel
theorem dX4_skipBlanks_5 : decode cX4_skipBlanks 5 = .ok (.getfield 37, 3) := by decide +kernel
theorem dX4_skipBlanks_8 : decode cX4_skipBlanks 8 = .ok (.if_icmp .ge 30, 3) := by decide +kernel
theorem dX4_skipBlanks_11 : decode cX4_skipBlanks 11 = .ok (.aload_n 0, 1) := by decide +kernel
theorem dX4_skipBlanks_12 : decode cX4_skipBlanks 12 = .ok (.aload_n 0, 1) := by decide +kernel
theorem dX4_skipBlanks_13 : decode cX4_skipBlanks 13 = .ok (.getfield 41, 3) := by decide +kernel
theorem dX4_skipBlanks_16 : decode cX4_skipBlanks 16 = .ok (.invokevirtual 68, 3) := by decide +kernel
theorem dX4_skipBlanks_19 : decode cX4_skipBlanks 19 = .ok (.invokestatic 72, 3) := by decide +kernel
theorem dX4_skipBlanks_22 : decode cX4_skipBlanks 22 = .ok (.ifCond .eq 16, 3) := by decide +kernel
theorem dX4_skipBlanks_25 : decode cX4_skipBlanks 25 = .ok (.aload_n 0, 1) := by decide +kernel
theorem dX4_skipBlanks_26 : decode cX4_skipBlanks 26 = .ok (.dup, 1) := by decide +kernel
theorem dX4_skipBlanks_27 : decode cX4_skipBlanks 27 = .ok (.getfield 41, 3) := by decide +kernel
theorem dX4_skipBlanks_30 : decode cX4_skipBlanks 30 = .ok (.iconst 1, 1) := by decide +kernel
theorem dX4_skipBlanks_31 : decode cX4_skipBlanks 31 = .ok (.iadd, 1) := by decide +kernel
theorem dX4_skipBlanks_32 : decode cX4_skipBlanks 32 = .ok (.putfield 41, 3) := by decide +kernel
theorem dX4_skipBlanks_35 : decode cX4_skipBlanks 35 = .ok (.goto (-35), 3) := by decide +kernel
theorem dX4_skipBlanks_38 : decode cX4_skipBlanks 38 = .ok (.return_, 1) := by decide +kernel
theorem dX4_byteAt_0 : decode cX4_byteAt 0 = .ok (.iload_n 1, 1) := by decide +kernel
theorem dX4_byteAt_1 : decode cX4_byteAt 1 = .ok (.ifCond .lt 29, 3) := by decide +kernel
theorem dX4_byteAt_4 : decode cX4_byteAt 4 = .ok (.iload_n 1, 1) := by decide +kernel
theorem dX4_byteAt_5 : decode cX4_byteAt 5 = .ok (.aload_n 0, 1) := by decide +kernel
theorem dX4_byteAt_6 : decode cX4_byteAt 6 = .ok (.getfield 37, 3) := by decide +kernel
theorem dX4_byteAt_9 : decode cX4_byteAt 9 = .ok (.if_icmp .ge 21, 3) := by decide +kernel
theorem dX4_byteAt_12 : decode cX4_byteAt 12 = .ok (.iload_n 1, 1) := by decide +kernel
theorem dX4_byteAt_13 : decode cX4_byteAt 13 = .ok (.aload_n 0, 1) := by decide +kernel
theorem dX4_byteAt_14 : decode cX4_byteAt 14 = .ok (.getfield 30, 3) := by decide +kernel
theorem dX4_byteAt_17 : decode cX4_byteAt 17 = .ok (.arraylength, 1) := by decide +kernel
theorem dX4_byteAt_18 : decode cX4_byteAt 18 = .ok (.if_icmp .ge 12, 3) := by decide +kernel
theorem dX4_byteAt_21 : decode cX4_byteAt 21 = .ok (.aload_n 0, 1) := by decide +kernel
theorem dX4_byteAt_22 : decode cX4_byteAt 22 = .ok (.getfield 30, 3) := by decide +kernel
theorem dX4_byteAt_25 : decode cX4_byteAt 25 = .ok (.iload_n 1, 1) := by decide +kernel
theorem dX4_byteAt_26 : decode cX4_byteAt 26 = .ok (.iaload, 1) := by decide +kernel
theorem dX4_byteAt_27 : decode cX4_byteAt 27 = .ok (.goto 4, 3) := by decide +kernel
theorem dX4_byteAt_30 : decode cX4_byteAt 30 = .ok (.iconst (-1), 1) := by decide +kernel
theorem dX4_byteAt_31 : decode cX4_byteAt 31 = .ok (.ireturn, 1) := by decide +kernel
theorem dX4_isBlank_0 : decode cX4_isBlank 0 = .ok (.iload_n 0, 1) := by decide +kernel
theorem dX4_isBlank_1 : decode cX4_isBlank 1 = .ok (.bipush 9, 2) := by decide +kernel
theorem dX4_isBlank_3 : decode cX4_isBlank 3 = .ok (.if_icmp .eq 21, 3) := by decide +kernel
theorem dX4_isBlank_6 : decode cX4_isBlank 6 = .ok (.iload_n 0, 1) := by decide +kernel
theorem dX4_isBlank_7 : decode cX4_isBlank 7 = .ok (.bipush 10, 2) := by decide +kernel
theorem dX4_isBlank_9 : decode cX4_isBlank 9 = .ok (.if_icmp .eq 15, 3) := by decide +kernel
theorem dX4_isBlank_12 : decode cX4_isBlank 12 = .ok (.iload_n 0, 1) := by decide +kernel
theorem dX4_isBlank_13 : decode cX4_isBlank 13 = .ok (.bipush 13, 2) := by decide +kernel
theorem dX4_isBlank_15 : decode cX4_isBlank 15 = .ok (.if_icmp .eq 9, 3) := by decide +kernel
theorem dX4_isBlank_18 : decode cX4_isBlank 18 = .ok (.iload_n 0, 1) := by decide +kernel
theorem dX4_isBlank_19 : decode cX4_isBlank 19 = .ok (.bipush 32, 2) := by decide +kernel
theorem dX4_isBlank_21 : decode cX4_isBlank 21 = .ok (.if_icmp .ne 7, 3) := by decide +kernel
theorem dX4_isBlank_24 : decode cX4_isBlank 24 = .ok (.iconst 1, 1) := by decide +kernel
theorem dX4_isBlank_25 : decode cX4_isBlank 25 = .ok (.goto 4, 3) := by decide +kernel
theorem dX4_isBlank_28 : decode cX4_isBlank 28 = .ok (.iconst 0, 1) := by decide +kernel
theorem dX4_isBlank_29 : decode cX4_isBlank 29 = .ok (.ireturn, 1) := by decide +kernel
theorem dX4_isLetter_0 : decode cX4_isLetter 0 = .ok (.iload_n 0, 1) := by decide +kernel
theorem dX4_isLetter_1 : decode cX4_isLetter 1 = .ok (.bipush 97, 2) := by decide +kernel
theorem dX4_isLetter_3 : decode cX4_isLetter 3 = .ok (.if_icmp .lt 13, 3) := by decide +kernel
theorem dX4_isLetter_6 : decode cX4_isLetter 6 = .ok (.iload_n 0, 1) := by decide +kernel
theorem dX4_isLetter_7 : decode cX4_isLetter 7 = .ok (.bipush 122, 2) := by decide +kernel
theorem dX4_isLetter_9 : decode cX4_isLetter 9 = .ok (.if_icmp .gt 7, 3) := by decide +kernel
theorem dX4_isLetter_12 : decode cX4_isLetter 12 = .ok (.iconst 1, 1) := by decide +kernel
theorem dX4_isLetter_13 : decode cX4_isLetter 13 = .ok (.goto 4, 3) := by decide +kernel
theorem dX4_isLetter_16 : decode cX4_isLetter 16 = .ok (.iconst 0, 1) := by decide +kernel
theorem dX4_isLetter_17 : decode cX4_isLetter 17 = .ok (.ireturn, 1) := by decide +kernel
theorem dX4_isDigit_0 : decode cX4_isDigit 0 = .ok (.iload_n 0, 1) := by decide +kernel
theorem dX4_isDigit_1 : decode cX4_isDigit 1 = .ok (.bipush 48, 2) := by decide +kernel
theorem dX4_isDigit_3 : decode cX4_isDigit 3 = .ok (.if_icmp .lt 13, 3) := by decide +kernel
theorem dX4_isDigit_6 : decode cX4_isDigit 6 = .ok (.iload_n 0, 1) := by decide +kernel
theorem dX4_isDigit_7 : decode cX4_isDigit 7 = .ok (.bipush 57, 2) := by decide +kernel
theorem dX4_isDigit_9 : decode cX4_isDigit 9 = .ok (.if_icmp .gt 7, 3) := by decide +kernel
theorem dX4_isDigit_12 : decode cX4_isDigit 12 = .ok (.iconst 1, 1) := by decide +kernel
theorem dX4_isDigit_13 : decode cX4_isDigit 13 = .ok (.goto 4, 3) := by decide +kernel
theorem dX4_isDigit_16 : decode cX4_isDigit 16 = .ok (.iconst 0, 1) := by decide +kernel
theorem dX4_isDigit_17 : decode cX4_isDigit 17 = .ok (.ireturn, 1) := by decide +kernel
theorem dX5_init_0 : decode cX5_init 0 = .ok (.aload_n 0, 1) := by decide +kernel
theorem dX5_init_1 : decode cX5_init 1 = .ok (.invokespecial 3, 3) := by decide +kernel
theorem dX5_init_4 : decode cX5_init 4 = .ok (.aload_n 0, 1) := by decide +kernel
theorem dX5_init_5 : decode cX5_init 5 = .ok (.sipush 4002, 3) := by decide +kernel
theorem dX5_init_8 : decode cX5_init 8 = .ok (.newarray .int, 2) := by decide +kernel
theorem dX5_init_10 : decode cX5_init 10 = .ok (.putfield 11, 3) := by decide +kernel
theorem dX5_init_13 : decode cX5_init 13 = .ok (.aload_n 0, 1) := by decide +kernel
theorem dX5_init_14 : decode cX5_init 14 = .ok (.sipush 4002, 3) := by decide +kernel
theorem dX5_init_17 : decode cX5_init 17 = .ok (.newarray .int, 2) := by decide +kernel
theorem dX5_init_19 : decode cX5_init 19 = .ok (.putfield 15, 3) := by decide +kernel
theorem dX5_init_22 : decode cX5_init 22 = .ok (.aload_n 0, 1) := by decide +kernel
theorem dX5_init_23 : decode cX5_init 23 = .ok (.sipush 4002, 3) := by decide +kernel
theorem dX5_init_26 : decode cX5_init 26 = .ok (.newarray .int, 2) := by decide +kernel
theorem dX5_init_28 : decode cX5_init 28 = .ok (.putfield 18, 3) := by decide +kernel
theorem dX5_init_31 : decode cX5_init 31 = .ok (.aload_n 0, 1) := by decide +kernel
theorem dX5_init_32 : decode cX5_init 32 = .ok (.sipush 4002, 3) := by decide +kernel
theorem dX5_init_35 : decode cX5_init 35 = .ok (.newarray .int, 2) := by decide +kernel
theorem dX5_init_37 : decode cX5_init 37 = .ok (.putfield 21, 3) := by decide +kernel
theorem dX5_init_40 : decode cX5_init 40 = .ok (.aload_n 0, 1) := by decide +kernel
theorem dX5_init_41 : decode cX5_init 41 = .ok (.sipush 4096, 3) := by decide +kernel
theorem dX5_init_44 : decode cX5_init 44 = .ok (.newarray .int, 2) := by decide +kernel
theorem dX5_init_46 : decode cX5_init 46 = .ok (.putfield 24, 3) := by decide +kernel
theorem dX5_init_49 : decode cX5_init 49 = .ok (.aload_n 0, 1) := by decide +kernel
theorem dX5_init_50 : decode cX5_init 50 = .ok (.iconst 1, 1) := by decide +kernel
theorem dX5_init_51 : decode cX5_init 51 = .ok (.putfield 27, 3) := by decide +kernel
theorem dX5_init_54 : decode cX5_init 54 = .ok (.return_, 1) := by decide +kernel
theorem dX5_size_0 : decode cX5_size 0 = .ok (.aload_n 0, 1) := by decide +kernel
theorem dX5_size_1 : decode cX5_size 1 = .ok (.getfield 27, 3) := by decide +kernel
theorem dX5_size_4 : decode cX5_size 4 = .ok (.ireturn, 1) := by decide +kernel
theorem dX5_form_0 : decode cX5_form 0 = .ok (.iload_n 1, 1) := by decide +kernel
theorem dX5_form_1 : decode cX5_form 1 = .ok (.ifCond .le 20, 3) := by decide +kernel
theorem dX5_form_4 : decode cX5_form 4 = .ok (.iload_n 1, 1) := by decide +kernel
theorem dX5_form_5 : decode cX5_form 5 = .ok (.aload_n 0, 1) := by decide +kernel
theorem dX5_form_6 : decode cX5_form 6 = .ok (.getfield 27, 3) := by decide +kernel
theorem dX5_form_9 : decode cX5_form 9 = .ok (.if_icmp .ge 12, 3) := by decide +kernel
theorem dX5_form_12 : decode cX5_form 12 = .ok (.aload_n 0, 1) := by decide +kernel
theorem dX5_form_13 : decode cX5_form 13 = .ok (.getfield 11, 3) := by decide +kernel
theorem dX5_form_16 : decode cX5_form 16 = .ok (.iload_n 1, 1) := by decide +kernel
theorem dX5_form_17 : decode cX5_form 17 = .ok (.iaload, 1) := by decide +kernel
theorem dX5_form_18 : decode cX5_form 18 = .ok (.goto 4, 3) := by decide +kernel
theorem dX5_form_21 : decode cX5_form 21 = .ok (.iconst 0, 1) := by decide +kernel
theorem dX5_form_22 : decode cX5_form 22 = .ok (.ireturn, 1) := by decide +kernel
theorem dX5_left_0 : decode cX5_left 0 = .ok (.iload_n 1, 1) := by decide +kernel
theorem dX5_left_1 : decode cX5_left 1 = .ok (.ifCond .le 20, 3) := by decide +kernel
theorem dX5_left_4 : decode cX5_left 4 = .ok (.iload_n 1, 1) := by decide +kernel
theorem dX5_left_5 : decode cX5_left 5 = .ok (.aload_n 0, 1) := by decide +kernel
theorem dX5_left_6 : decode cX5_left 6 = .ok (.getfield 27, 3) := by decide +kernel
theorem dX5_left_9 : decode cX5_left 9 = .ok (.if_icmp .ge 12, 3) := by decide +kernel
theorem dX5_left_12 : decode cX5_left 12 = .ok (.aload_n 0, 1) := by decide +kernel
theorem dX5_left_13 : decode cX5_left 13 = .ok (.getfield 15, 3) := by decide +kernel
theorem dX5_left_16 : decode cX5_left 16 = .ok (.iload_n 1, 1) := by decide +kernel
theorem dX5_left_17 : decode cX5_left 17 = .ok (.iaload, 1) := by decide +kernel
theorem dX5_left_18 : decode cX5_left 18 = .ok (.goto 4, 3) := by decide +kernel
theorem dX5_left_21 : decode cX5_left 21 = .ok (.iconst 0, 1) := by decide +kernel
theorem dX5_left_22 : decode cX5_left 22 = .ok (.ireturn, 1) := by decide +kernel
theorem dX5_right_0 : decode cX5_right 0 = .ok (.iload_n 1, 1) := by decide +kernel
theorem dX5_right_1 : decode cX5_right 1 = .ok (.ifCond .le 20, 3) := by decide +kernel
theorem dX5_right_4 : decode cX5_right 4 = .ok (.iload_n 1, 1) := by decide +kernel
theorem dX5_right_5 : decode cX5_right 5 = .ok (.aload_n 0, 1) := by decide +kernel
theorem dX5_right_6 : decode cX5_right 6 = .ok (.getfield 27, 3) := by decide +kernel
theorem dX5_right_9 : decode cX5_right 9 = .ok (.if_icmp .ge 12, 3) := by decide +kernel
theorem dX5_right_12 : decode cX5_right 12 = .ok (.aload_n 0, 1) := by decide +kernel
theorem dX5_right_13 : decode cX5_right 13 = .ok (.getfield 18, 3) := by decide +kernel
theorem dX5_right_16 : decode cX5_right 16 = .ok (.iload_n 1, 1) := by decide +kernel
theorem dX5_right_17 : decode cX5_right 17 = .ok (.iaload, 1) := by decide +kernel
theorem dX5_right_18 : decode cX5_right 18 = .ok (.goto 4, 3) := by decide +kernel
theorem dX5_right_21 : decode cX5_right 21 = .ok (.iconst 0, 1) := by decide +kernel
theorem dX5_right_22 : decode cX5_right 22 = .ok (.ireturn, 1) := by decide +kernel
set_option maxRecDepth 20000 in
theorem ggX5_tree_X5_bucketOf : GoodIn wsX5_tree wsX5_bucketOf := goodIn_r _ [10] (by decide +kernel) (by decide +kernel)
set_option maxRecDepth 20000 in
theorem gX5_tree_X5_bucketOf : GoodIn wsX5_tree (va_wsS RX5 31 yX5_bucketOf wsX5_bucketOf) := goodIn_app (goodIn_of _ (by decide +kernel)) ggX5_tree_X5_bucketOf
set_option maxRecDepth 20000 in
theorem ggX5_tree_X5_add : GoodIn wsX5_tree wsX5_add := goodIn_r _ [14, 2, 3, 4, 5, 6, 1, 15, 16, 17, 18, 19, 20] (by decide +kernel) (by decide +kernel)
set_option maxRecDepth 20000 in
theorem gX5_tree_X5_add : GoodIn wsX5_tree (wsV RX5 35 RX5 yX5_add wsX5_add) := goodIn_app (goodIn_of _ (by decide +kernel)) ggX5_tree_X5_add
theorem dX5_tree_0 : decode cX5_tree 0 = .ok (.iload_n 1, 1) := by decide +kernel
theorem dX5_tree_1 : decode cX5_tree 1 = .ok (.iload_n 2, 1) := by decide +kernel
theorem dX5_tree_2 : decode cX5_tree 2 = .ok (.iload_n 3, 1) := by decide +kernel
theorem dX5_tree_3 : decode cX5_tree 3 = .ok (.invokestatic 31, 3) := by decide +kernel
theorem dX5_tree_6 : decode cX5_tree 6 = .ok (.istore 4, 2) := by decide +kernel
theorem dX5_tree_8 : decode cX5_tree 8 = .ok (.aload_n 0, 1) := by decide +kernel
theorem dX5_tree_9 : decode cX5_tree 9 = .ok (.getfield 24, 3) := by decide +kernel
theorem dX5_tree_12 : decode cX5_tree 12 = .ok (.iload 4, 2) := by decide +kernel
theorem dX5_tree_14 : decode cX5_tree 14 = .ok (.iaload, 1) := by decide +kernel
theorem dX5_tree_15 : decode cX5_tree 15 = .ok (.istore 5, 2) := by decide +kernel
theorem dX5_tree_17 : decode cX5_tree 17 = .ok (.iconst 0, 1) := by decide +kernel
theorem dX5_tree_18 : decode cX5_tree 18 = .ok (.istore 6, 2) := by decide +kernel
theorem dX5_tree_20 : decode cX5_tree 20 = .ok (.iload 6, 2) := by decide +kernel
theorem dX5_tree_22 : decode cX5_tree 22 = .ok (.aload_n 0, 1) := by decide +kernel
theorem dX5_tree_23 : decode cX5_tree 23 = .ok (.getfield 27, 3) := by decide +kernel
theorem dX5_tree_26 : decode cX5_tree 26 = .ok (.if_icmp .ge 68, 3) := by decide +kernel
theorem dX5_tree_29 : decode cX5_tree 29 = .ok (.iload 5, 2) := by decide +kernel
theorem dX5_tree_31 : decode cX5_tree 31 = .ok (.ifCond .le 63, 3) := by decide +kernel
theorem dX5_tree_34 : decode cX5_tree 34 = .ok (.iload 5, 2) := by decide +kernel
theorem dX5_tree_36 : decode cX5_tree 36 = .ok (.aload_n 0, 1) := by decide +kernel
theorem dX5_tree_37 : decode cX5_tree 37 = .ok (.getfield 27, 3) := by decide +kernel
theorem dX5_tree_40 : decode cX5_tree 40 = .ok (.if_icmp .ge 54, 3) := by decide +kernel
theorem dX5_tree_43 : decode cX5_tree 43 = .ok (.aload_n 0, 1) := by decide +kernel
theorem dX5_tree_44 : decode cX5_tree 44 = .ok (.getfield 11, 3) := by decide +kernel
theorem dX5_tree_47 : decode cX5_tree 47 = .ok (.iload 5, 2) := by decide +kernel
theorem dX5_tree_49 : decode cX5_tree 49 = .ok (.iaload, 1) := by decide +kernel
theorem dX5_tree_50 : decode cX5_tree 50 = .ok (.iload_n 1, 1) := by decide +kernel
theorem dX5_tree_51 : decode cX5_tree 51 = .ok (.if_icmp .ne 28, 3) := by decide +kernel
theorem dX5_tree_54 : decode cX5_tree 54 = .ok (.aload_n 0, 1) := by decide +kernel
theorem dX5_tree_55 : decode cX5_tree 55 = .ok (.getfield 15, 3) := by decide +kernel
theorem dX5_tree_58 : decode cX5_tree 58 = .ok (.iload 5, 2) := by decide +kernel
theorem dX5_tree_60 : decode cX5_tree 60 = .ok (.iaload, 1) := by decide +kernel
theorem dX5_tree_61 : decode cX5_tree 61 = .ok (.iload_n 2, 1) := by decide +kernel
theorem dX5_tree_62 : decode cX5_tree 62 = .ok (.if_icmp .ne 17, 3) := by decide +kernel
theorem dX5_tree_65 : decode cX5_tree 65 = .ok (.aload_n 0, 1) := by decide +kernel
theorem dX5_tree_66 : decode cX5_tree 66 = .ok (.getfield 18, 3) := by decide +kernel
theorem dX5_tree_69 : decode cX5_tree 69 = .ok (.iload 5, 2) := by decide +kernel
theorem dX5_tree_71 : decode cX5_tree 71 = .ok (.iaload, 1) := by decide +kernel
theorem dX5_tree_72 : decode cX5_tree 72 = .ok (.iload_n 3, 1) := by decide +kernel
theorem dX5_tree_73 : decode cX5_tree 73 = .ok (.if_icmp .ne 6, 3) := by decide +kernel
theorem dX5_tree_76 : decode cX5_tree 76 = .ok (.iload 5, 2) := by decide +kernel
theorem dX5_tree_78 : decode cX5_tree 78 = .ok (.ireturn, 1) := by decide +kernel
theorem dX5_tree_79 : decode cX5_tree 79 = .ok (.aload_n 0, 1) := by decide +kernel
theorem dX5_tree_80 : decode cX5_tree 80 = .ok (.getfield 21, 3) := by decide +kernel
theorem dX5_tree_83 : decode cX5_tree 83 = .ok (.iload 5, 2) := by decide +kernel
theorem dX5_tree_85 : decode cX5_tree 85 = .ok (.iaload, 1) := by decide +kernel
theorem dX5_tree_86 : decode cX5_tree 86 = .ok (.istore 5, 2) := by decide +kernel
theorem dX5_tree_88 : decode cX5_tree 88 = .ok (.iinc 6 1, 3) := by decide +kernel
theorem dX5_tree_91 : decode cX5_tree 91 = .ok (.goto (-71), 3) := by decide +kernel
theorem dX5_tree_94 : decode cX5_tree 94 = .ok (.aload_n 0, 1) := by decide +kernel
theorem dX5_tree_95 : decode cX5_tree 95 = .ok (.iload 4, 2) := by decide +kernel
theorem dX5_tree_97 : decode cX5_tree 97 = .ok (.iload_n 1, 1) := by decide +kernel
theorem dX5_tree_98 : decode cX5_tree 98 = .ok (.iload_n 2, 1) := by decide +kernel
theorem dX5_tree_99 : decode cX5_tree 99 = .ok (.iload_n 3, 1) := by decide +kernel
theorem dX5_tree_100 : decode cX5_tree 100 = .ok (.invokevirtual 35, 3) := by decide +kernel
theorem dX5_tree_103 : decode cX5_tree 103 = .ok (.ireturn, 1) := by decide +kernel
set_option maxRecDepth 20000 in
theorem ggX5_cut_X5_bucketOf : GoodIn wsX5_cut wsX5_bucketOf := goodIn_r _ [10] (by decide +kernel) (by decide +kernel)
set_option maxRecDepth 20000 in
theorem gX5_cut_X5_bucketOf : GoodIn wsX5_cut (va_wsS RX5 31 yX5_bucketOf wsX5_bucketOf) := goodIn_app (goodIn_of _ (by decide +kernel)) ggX5_cut_X5_bucketOf
theorem dX5_cut_0 : decode cX5_cut 0 = .ok (.aload_n 0, 1) := by decide +kernel
theorem dX5_cut_1 : decode cX5_cut 1 = .ok (.getfield 27, 3) := by decide +kernel
theorem dX5_cut_4 : decode cX5_cut 4 = .ok (.iload_n 1, 1) := by decide +kernel
theorem dX5_cut_5 : decode cX5_cut 5 = .ok (.if_icmp .le 78, 3) := by decide +kernel
theorem dX5_cut_8 : decode cX5_cut 8 = .ok (.aload_n 0, 1) := by decide +kernel
theorem dX5_cut_9 : decode cX5_cut 9 = .ok (.getfield 27, 3) := by decide +kernel
theorem dX5_cut_12 : decode cX5_cut 12 = .ok (.iconst 1, 1) := by decide +kernel
theorem dX5_cut_13 : decode cX5_cut 13 = .ok (.if_icmp .le 70, 3) := by decide +kernel
theorem dX5_cut_16 : decode cX5_cut 16 = .ok (.aload_n 0, 1) := by decide +kernel
theorem dX5_cut_17 : decode cX5_cut 17 = .ok (.getfield 27, 3) := by decide +kernel
theorem dX5_cut_20 : decode cX5_cut 20 = .ok (.sipush 4002, 3) := by decide +kernel
theorem dX5_cut_23 : decode cX5_cut 23 = .ok (.if_icmp .gt 60, 3) := by decide +kernel
theorem dX5_cut_26 : decode cX5_cut 26 = .ok (.aload_n 0, 1) := by decide +kernel
theorem dX5_cut_27 : decode cX5_cut 27 = .ok (.dup, 1) := by decide +kernel
theorem dX5_cut_28 : decode cX5_cut 28 = .ok (.getfield 27, 3) := by decide +kernel
theorem dX5_cut_31 : decode cX5_cut 31 = .ok (.iconst 1, 1) := by decide +kernel
theorem dX5_cut_32 : decode cX5_cut 32 = .ok (.isub, 1) := by decide +kernel
theorem dX5_cut_33 : decode cX5_cut 33 = .ok (.putfield 27, 3) := by decide +kernel
theorem dX5_cut_36 : decode cX5_cut 36 = .ok (.aload_n 0, 1) := by decide +kernel
theorem dX5_cut_37 : decode cX5_cut 37 = .ok (.getfield 24, 3) := by decide +kernel
theorem dX5_cut_40 : decode cX5_cut 40 = .ok (.aload_n 0, 1) := by decide +kernel
theorem dX5_cut_41 : decode cX5_cut 41 = .ok (.getfield 11, 3) := by decide +kernel
theorem dX5_cut_44 : decode cX5_cut 44 = .ok (.aload_n 0, 1) := by decide +kernel
theorem dX5_cut_45 : decode cX5_cut 45 = .ok (.getfield 27, 3) := by decide +kernel
theorem dX5_cut_48 : decode cX5_cut 48 = .ok (.iaload, 1) := by decide +kernel
theorem dX5_cut_49 : decode cX5_cut 49 = .ok (.aload_n 0, 1) := by decide +kernel
theorem dX5_cut_50 : decode cX5_cut 50 = .ok (.getfield 15, 3) := by decide +kernel
theorem dX5_cut_53 : decode cX5_cut 53 = .ok (.aload_n 0, 1) := by decide +kernel
theorem dX5_cut_54 : decode cX5_cut 54 = .ok (.getfield 27, 3) := by decide +kernel
theorem dX5_cut_57 : decode cX5_cut 57 = .ok (.iaload, 1) := by decide +kernel
theorem dX5_cut_58 : decode cX5_cut 58 = .ok (.aload_n 0, 1) := by decide +kernel
theorem dX5_cut_59 : decode cX5_cut 59 = .ok (.getfield 18, 3) := by decide +kernel
theorem dX5_cut_62 : decode cX5_cut 62 = .ok (.aload_n 0, 1) := by decide +kernel
theorem dX5_cut_63 : decode cX5_cut 63 = .ok (.getfield 27, 3) := by decide +kernel
theorem dX5_cut_66 : decode cX5_cut 66 = .ok (.iaload, 1) := by decide +kernel
theorem dX5_cut_67 : decode cX5_cut 67 = .ok (.invokestatic 31, 3) := by decide +kernel
theorem dX5_cut_70 : decode cX5_cut 70 = .ok (.aload_n 0, 1) := by decide +kernel
theorem dX5_cut_71 : decode cX5_cut 71 = .ok (.getfield 21, 3) := by decide +kernel
theorem dX5_cut_74 : decode cX5_cut 74 = .ok (.aload_n 0, 1) := by decide +kernel
theorem dX5_cut_75 : decode cX5_cut 75 = .ok (.getfield 27, 3) := by decide +kernel
theorem dX5_cut_78 : decode cX5_cut 78 = .ok (.iaload, 1) := by decide +kernel
theorem dX5_cut_79 : decode cX5_cut 79 = .ok (.iastore, 1) := by decide +kernel
theorem dX5_cut_80 : decode cX5_cut 80 = .ok (.goto (-80), 3) := by decide +kernel
theorem dX5_cut_83 : decode cX5_cut 83 = .ok (.return_, 1) := by decide +kernel
theorem dX5_add_0 : decode cX5_add 0 = .ok (.aload_n 0, 1) := by decide +kernel
theorem dX5_add_1 : decode cX5_add 1 = .ok (.getfield 27, 3) := by decide +kernel
theorem dX5_add_4 : decode cX5_add 4 = .ok (.sipush 4002, 3) := by decide +kernel
theorem dX5_add_7 : decode cX5_add 7 = .ok (.if_icmp .ge 14, 3) := by decide +kernel
theorem dX5_add_10 : decode cX5_add 10 = .ok (.iload_n 1, 1) := by decide +kernel
theorem dX5_add_11 : decode cX5_add 11 = .ok (.ifCond .lt 10, 3) := by decide +kernel
theorem dX5_add_14 : decode cX5_add 14 = .ok (.iload_n 1, 1) := by decide +kernel
theorem dX5_add_15 : decode cX5_add 15 = .ok (.sipush 4096, 3) := by decide +kernel
theorem dX5_add_18 : decode cX5_add 18 = .ok (.if_icmp .lt 5, 3) := by decide +kernel
theorem dX5_add_21 : decode cX5_add 21 = .ok (.iconst 0, 1) := by decide +kernel
theorem dX5_add_22 : decode cX5_add 22 = .ok (.ireturn, 1) := by decide +kernel
theorem dX5_add_23 : decode cX5_add 23 = .ok (.aload_n 0, 1) := by decide +kernel
theorem dX5_add_24 : decode cX5_add 24 = .ok (.getfield 27, 3) := by decide +kernel
theorem dX5_add_27 : decode cX5_add 27 = .ok (.istore 5, 2) := by decide +kernel
theorem dX5_add_29 : decode cX5_add 29 = .ok (.aload_n 0, 1) := by decide +kernel
theorem dX5_add_30 : decode cX5_add 30 = .ok (.getfield 11, 3) := by decide +kernel
theorem dX5_add_33 : decode cX5_add 33 = .ok (.iload 5, 2) := by decide +kernel
theorem dX5_add_35 : decode cX5_add 35 = .ok (.iload_n 2, 1) := by decide +kernel
theorem dX5_add_36 : decode cX5_add 36 = .ok (.iastore, 1) := by decide +kernel
theorem dX5_add_37 : decode cX5_add 37 = .ok (.aload_n 0, 1) := by decide +kernel
theorem dX5_add_38 : decode cX5_add 38 = .ok (.getfield 15, 3) := by decide +kernel
theorem dX5_add_41 : decode cX5_add 41 = .ok (.iload 5, 2) := by decide +kernel
theorem dX5_add_43 : decode cX5_add 43 = .ok (.iload_n 3, 1) := by decide +kernel
theorem dX5_add_44 : decode cX5_add 44 = .ok (.iastore, 1) := by decide +kernel
theorem dX5_add_45 : decode cX5_add 45 = .ok (.aload_n 0, 1) := by decide +kernel
theorem dX5_add_46 : decode cX5_add 46 = .ok (.getfield 18, 3) := by decide +kernel
