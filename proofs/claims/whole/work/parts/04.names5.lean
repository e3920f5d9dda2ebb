theorem dX5_init_0 : decode cX5_init 0 = .ok (.aload_n 0, 1) := by decide +kernel
theorem dX5_init_1 : decode cX5_init 1 = .ok (.invokespecial 1, 3) := by decide +kernel
theorem dX5_init_4 : decode cX5_init 4 = .ok (.aload_n 0, 1) := by decide +kernel
theorem dX5_init_5 : decode cX5_init 5 = .ok (.bipush 32, 2) := by decide +kernel
theorem dX5_init_7 : decode cX5_init 7 = .ok (.newarray .int, 2) := by decide +kernel
theorem dX5_init_9 : decode cX5_init 9 = .ok (.putfield 7, 3) := by decide +kernel
theorem dX5_init_12 : decode cX5_init 12 = .ok (.aload_n 0, 1) := by decide +kernel
theorem dX5_init_13 : decode cX5_init 13 = .ok (.iconst 1, 1) := by decide +kernel
theorem dX5_init_14 : decode cX5_init 14 = .ok (.putfield 13, 3) := by decide +kernel
theorem dX5_init_17 : decode cX5_init 17 = .ok (.aload_n 0, 1) := by decide +kernel
theorem dX5_init_18 : decode cX5_init 18 = .ok (.bipush 9, 2) := by decide +kernel
theorem dX5_init_20 : decode cX5_init 20 = .ok (.putfield 17, 3) := by decide +kernel
theorem dX5_init_23 : decode cX5_init 23 = .ok (.aload_n 0, 1) := by decide +kernel
theorem dX5_init_24 : decode cX5_init 24 = .ok (.iconst 5, 1) := by decide +kernel
theorem dX5_init_25 : decode cX5_init 25 = .ok (.newarray .int, 2) := by decide +kernel
theorem dX5_init_27 : decode cX5_init 27 = .ok (.putfield 20, 3) := by decide +kernel
theorem dX5_init_30 : decode cX5_init 30 = .ok (.aload_n 0, 1) := by decide +kernel
theorem dX5_init_31 : decode cX5_init 31 = .ok (.iconst 5, 1) := by decide +kernel
theorem dX5_init_32 : decode cX5_init 32 = .ok (.newarray .int, 2) := by decide +kernel
theorem dX5_init_34 : decode cX5_init 34 = .ok (.putfield 23, 3) := by decide +kernel
theorem dX5_init_37 : decode cX5_init 37 = .ok (.aload_n 0, 1) := by decide +kernel
theorem dX5_init_38 : decode cX5_init 38 = .ok (.iconst 5, 1) := by decide +kernel
theorem dX5_init_39 : decode cX5_init 39 = .ok (.newarray .int, 2) := by decide +kernel
theorem dX5_init_41 : decode cX5_init 41 = .ok (.putfield 26, 3) := by decide +kernel
theorem dX5_init_44 : decode cX5_init 44 = .ok (.aload_n 0, 1) := by decide +kernel
theorem dX5_init_45 : decode cX5_init 45 = .ok (.iconst 5, 1) := by decide +kernel
theorem dX5_init_46 : decode cX5_init 46 = .ok (.newarray .int, 2) := by decide +kernel
theorem dX5_init_48 : decode cX5_init 48 = .ok (.putfield 29, 3) := by decide +kernel
theorem dX5_init_51 : decode cX5_init 51 = .ok (.aload_n 0, 1) := by decide +kernel
theorem dX5_init_52 : decode cX5_init 52 = .ok (.bipush 13, 2) := by decide +kernel
theorem dX5_init_54 : decode cX5_init 54 = .ok (.newarray .int, 2) := by decide +kernel
theorem dX5_init_56 : decode cX5_init 56 = .ok (.putfield 32, 3) := by decide +kernel
theorem dX5_init_59 : decode cX5_init 59 = .ok (.aload_n 0, 1) := by decide +kernel
theorem dX5_init_60 : decode cX5_init 60 = .ok (.bipush 13, 2) := by decide +kernel
theorem dX5_init_62 : decode cX5_init 62 = .ok (.newarray .int, 2) := by decide +kernel
theorem dX5_init_64 : decode cX5_init 64 = .ok (.putfield 35, 3) := by decide +kernel
theorem dX5_init_67 : decode cX5_init 67 = .ok (.aload_n 0, 1) := by decide +kernel
theorem dX5_init_68 : decode cX5_init 68 = .ok (.sipush 182, 3) := by decide +kernel
theorem dX5_init_71 : decode cX5_init 71 = .ok (.newarray .int, 2) := by decide +kernel
theorem dX5_init_73 : decode cX5_init 73 = .ok (.putfield 38, 3) := by decide +kernel
theorem dX5_init_76 : decode cX5_init 76 = .ok (.aload_n 0, 1) := by decide +kernel
theorem dX5_init_77 : decode cX5_init 77 = .ok (.bipush 26, 2) := by decide +kernel
theorem dX5_init_79 : decode cX5_init 79 = .ok (.newarray .int, 2) := by decide +kernel
theorem dX5_init_81 : decode cX5_init 81 = .ok (.putfield 41, 3) := by decide +kernel
theorem dX5_init_84 : decode cX5_init 84 = .ok (.aload_n 0, 1) := by decide +kernel
theorem dX5_init_85 : decode cX5_init 85 = .ok (.iconst 2, 1) := by decide +kernel
theorem dX5_init_86 : decode cX5_init 86 = .ok (.newarray .boolean, 2) := by decide +kernel
theorem dX5_init_88 : decode cX5_init 88 = .ok (.putfield 44, 3) := by decide +kernel
theorem dX5_init_91 : decode cX5_init 91 = .ok (.aload_n 0, 1) := by decide +kernel
theorem dX5_init_92 : decode cX5_init 92 = .ok (.bipush 6, 2) := by decide +kernel
theorem dX5_init_94 : decode cX5_init 94 = .ok (.newarray .int, 2) := by decide +kernel
theorem dX5_init_96 : decode cX5_init 96 = .ok (.putfield 48, 3) := by decide +kernel
theorem dX5_init_99 : decode cX5_init 99 = .ok (.aload_n 0, 1) := by decide +kernel
theorem dX5_init_100 : decode cX5_init 100 = .ok (.bipush 6, 2) := by decide +kernel
theorem dX5_init_102 : decode cX5_init 102 = .ok (.newarray .boolean, 2) := by decide +kernel
theorem dX5_init_104 : decode cX5_init 104 = .ok (.putfield 51, 3) := by decide +kernel
theorem dX5_init_107 : decode cX5_init 107 = .ok (.aload_n 0, 1) := by decide +kernel
theorem dX5_init_108 : decode cX5_init 108 = .ok (.bipush 32, 2) := by decide +kernel
theorem dX5_init_110 : decode cX5_init 110 = .ok (.newarray .int, 2) := by decide +kernel
theorem dX5_init_112 : decode cX5_init 112 = .ok (.putfield 54, 3) := by decide +kernel
theorem dX5_init_115 : decode cX5_init 115 = .ok (.return_, 1) := by decide +kernel
theorem dX5_in_0 : decode cX5_in 0 = .ok (.lload_n 0, 1) := by decide +kernel
theorem dX5_in_1 : decode cX5_in 1 = .ok (.lload_n 2, 1) := by decide +kernel
theorem dX5_in_2 : decode cX5_in 2 = .ok (.lcmp, 1) := by decide +kernel
theorem dX5_in_3 : decode cX5_in 3 = .ok (.ifCond .lt 14, 3) := by decide +kernel
theorem dX5_in_6 : decode cX5_in 6 = .ok (.lload_n 0, 1) := by decide +kernel
theorem dX5_in_7 : decode cX5_in 7 = .ok (.lload 4, 2) := by decide +kernel
theorem dX5_in_9 : decode cX5_in 9 = .ok (.lcmp, 1) := by decide +kernel
theorem dX5_in_10 : decode cX5_in 10 = .ok (.ifCond .gt 7, 3) := by decide +kernel
theorem dX5_in_13 : decode cX5_in 13 = .ok (.iconst 1, 1) := by decide +kernel
theorem dX5_in_14 : decode cX5_in 14 = .ok (.goto 4, 3) := by decide +kernel
theorem dX5_in_17 : decode cX5_in 17 = .ok (.iconst 0, 1) := by decide +kernel
theorem dX5_in_18 : decode cX5_in 18 = .ok (.ireturn, 1) := by decide +kernel
theorem dX5_has_0 : decode cX5_has 0 = .ok (.iload_n 0, 1) := by decide +kernel
theorem dX5_has_1 : decode cX5_has 1 = .ok (.iload_n 1, 1) := by decide +kernel
theorem dX5_has_2 : decode cX5_has 2 = .ok (.ishr, 1) := by decide +kernel
theorem dX5_has_3 : decode cX5_has 3 = .ok (.iconst 1, 1) := by decide +kernel
theorem dX5_has_4 : decode cX5_has 4 = .ok (.iand, 1) := by decide +kernel
theorem dX5_has_5 : decode cX5_has 5 = .ok (.iconst 1, 1) := by decide +kernel
theorem dX5_has_6 : decode cX5_has 6 = .ok (.if_icmp .ne 7, 3) := by decide +kernel
theorem dX5_has_9 : decode cX5_has 9 = .ok (.iconst 1, 1) := by decide +kernel
theorem dX5_has_10 : decode cX5_has 10 = .ok (.goto 4, 3) := by decide +kernel
theorem dX5_has_13 : decode cX5_has 13 = .ok (.iconst 0, 1) := by decide +kernel
theorem dX5_has_14 : decode cX5_has 14 = .ok (.ireturn, 1) := by decide +kernel
theorem dX5_many_0 : decode cX5_many 0 = .ok (.iconst 0, 1) := by decide +kernel
theorem dX5_many_1 : decode cX5_many 1 = .ok (.istore_n 1, 1) := by decide +kernel
theorem dX5_many_2 : decode cX5_many 2 = .ok (.iconst 0, 1) := by decide +kernel
theorem dX5_many_3 : decode cX5_many 3 = .ok (.istore_n 2, 1) := by decide +kernel
theorem dX5_many_4 : decode cX5_many 4 = .ok (.iload_n 2, 1) := by decide +kernel
theorem dX5_many_5 : decode cX5_many 5 = .ok (.iconst 5, 1) := by decide +kernel
theorem dX5_many_6 : decode cX5_many 6 = .ok (.if_icmp .ge 17, 3) := by decide +kernel
theorem dX5_many_9 : decode cX5_many 9 = .ok (.iload_n 1, 1) := by decide +kernel
theorem dX5_many_10 : decode cX5_many 10 = .ok (.iload_n 0, 1) := by decide +kernel
theorem dX5_many_11 : decode cX5_many 11 = .ok (.iload_n 2, 1) := by decide +kernel
theorem dX5_many_12 : decode cX5_many 12 = .ok (.ishr, 1) := by decide +kernel
theorem dX5_many_13 : decode cX5_many 13 = .ok (.iconst 1, 1) := by decide +kernel
theorem dX5_many_14 : decode cX5_many 14 = .ok (.iand, 1) := by decide +kernel
theorem dX5_many_15 : decode cX5_many 15 = .ok (.iadd, 1) := by decide +kernel
theorem dX5_many_16 : decode cX5_many 16 = .ok (.istore_n 1, 1) := by decide +kernel
theorem dX5_many_17 : decode cX5_many 17 = .ok (.iinc 2 1, 3) := by decide +kernel
theorem dX5_many_20 : decode cX5_many 20 = .ok (.goto (-16), 3) := by decide +kernel
theorem dX5_many_23 : decode cX5_many 23 = .ok (.iload_n 1, 1) := by decide +kernel
theorem dX5_many_24 : decode cX5_many 24 = .ok (.ireturn, 1) := by decide +kernel
set_option maxRecDepth 20000 in
theorem ggX5_noOne_X5_in : GoodIn wsX5_noOne wsX5_in := goodIn_r _ [5] (by decide +kernel) (by decide +kernel)
set_option maxRecDepth 20000 in
theorem gX5_noOne_X5_in : GoodIn wsX5_noOne (va_wsS RX5 63 yX5_in wsX5_in) := goodIn_app (goodIn_of _ (by decide +kernel)) ggX5_noOne_X5_in
theorem dX5_noOne_0 : decode cX5_noOne 0 = .ok (.iload_n 1, 1) := by decide +kernel
theorem dX5_noOne_1 : decode cX5_noOne 1 = .ok (.i2l, 1) := by decide +kernel
theorem dX5_noOne_2 : decode cX5_noOne 2 = .ok (.lconst 0, 1) := by decide +kernel
theorem dX5_noOne_3 : decode cX5_noOne 3 = .ok (.aload_n 0, 1) := by decide +kernel
theorem dX5_noOne_4 : decode cX5_noOne 4 = .ok (.getfield 60, 3) := by decide +kernel
theorem dX5_noOne_7 : decode cX5_noOne 7 = .ok (.iconst 1, 1) := by decide +kernel
theorem dX5_noOne_8 : decode cX5_noOne 8 = .ok (.isub, 1) := by decide +kernel
theorem dX5_noOne_9 : decode cX5_noOne 9 = .ok (.i2l, 1) := by decide +kernel
theorem dX5_noOne_10 : decode cX5_noOne 10 = .ok (.invokestatic 63, 3) := by decide +kernel
theorem dX5_noOne_13 : decode cX5_noOne 13 = .ok (.ifCond .ne 7, 3) := by decide +kernel
theorem dX5_noOne_16 : decode cX5_noOne 16 = .ok (.iconst 1, 1) := by decide +kernel
theorem dX5_noOne_17 : decode cX5_noOne 17 = .ok (.goto 4, 3) := by decide +kernel
theorem dX5_noOne_20 : decode cX5_noOne 20 = .ok (.iconst 0, 1) := by decide +kernel
theorem dX5_noOne_21 : decode cX5_noOne 21 = .ok (.ireturn, 1) := by decide +kernel
set_option maxRecDepth 20000 in
theorem ggX5_write_X5_in : GoodIn wsX5_write wsX5_in := goodIn_r _ [8] (by decide +kernel) (by decide +kernel)
set_option maxRecDepth 20000 in
theorem gX5_write_X5_in : GoodIn wsX5_write (va_wsS RX5 63 yX5_in wsX5_in) := goodIn_app (goodIn_of _ (by decide +kernel)) ggX5_write_X5_in
theorem dX5_write_0 : decode cX5_write 0 = .ok (.aload_n 0, 1) := by decide +kernel
theorem dX5_write_1 : decode cX5_write 1 = .ok (.iconst 0, 1) := by decide +kernel
theorem dX5_write_2 : decode cX5_write 2 = .ok (.putfield 57, 3) := by decide +kernel
theorem dX5_write_5 : decode cX5_write 5 = .ok (.iload_n 1, 1) := by decide +kernel
theorem dX5_write_6 : decode cX5_write 6 = .ok (.i2l, 1) := by decide +kernel
theorem dX5_write_7 : decode cX5_write 7 = .ok (.lconst 0, 1) := by decide +kernel
theorem dX5_write_8 : decode cX5_write 8 = .ok (.ldc2_w 67, 3) := by decide +kernel
theorem dX5_write_11 : decode cX5_write 11 = .ok (.invokestatic 63, 3) := by decide +kernel
theorem dX5_write_14 : decode cX5_write 14 = .ok (.ifCond .ne 6, 3) := by decide +kernel
theorem dX5_write_17 : decode cX5_write 17 = .ok (.bipush (-2), 2) := by decide +kernel
theorem dX5_write_19 : decode cX5_write 19 = .ok (.ireturn, 1) := by decide +kernel
theorem dX5_write_20 : decode cX5_write 20 = .ok (.aload_n 0, 1) := by decide +kernel
theorem dX5_write_21 : decode cX5_write 21 = .ok (.getfield 69, 3) := by decide +kernel
theorem dX5_write_24 : decode cX5_write 24 = .ok (.bipush 32, 2) := by decide +kernel
theorem dX5_write_26 : decode cX5_write 26 = .ok (.if_icmp .ne 6, 3) := by decide +kernel
theorem dX5_write_29 : decode cX5_write 29 = .ok (.bipush (-4), 2) := by decide +kernel
theorem dX5_write_31 : decode cX5_write 31 = .ok (.ireturn, 1) := by decide +kernel
theorem dX5_write_32 : decode cX5_write 32 = .ok (.aload_n 0, 1) := by decide +kernel
theorem dX5_write_33 : decode cX5_write 33 = .ok (.getfield 7, 3) := by decide +kernel
theorem dX5_write_36 : decode cX5_write 36 = .ok (.aload_n 0, 1) := by decide +kernel
theorem dX5_write_37 : decode cX5_write 37 = .ok (.getfield 69, 3) := by decide +kernel
theorem dX5_write_40 : decode cX5_write 40 = .ok (.iload_n 1, 1) := by decide +kernel
theorem dX5_write_41 : decode cX5_write 41 = .ok (.iastore, 1) := by decide +kernel
theorem dX5_write_42 : decode cX5_write 42 = .ok (.aload_n 0, 1) := by decide +kernel
theorem dX5_write_43 : decode cX5_write 43 = .ok (.dup, 1) := by decide +kernel
theorem dX5_write_44 : decode cX5_write 44 = .ok (.getfield 69, 3) := by decide +kernel
theorem dX5_write_47 : decode cX5_write 47 = .ok (.iconst 1, 1) := by decide +kernel
theorem dX5_write_48 : decode cX5_write 48 = .ok (.iadd, 1) := by decide +kernel
theorem dX5_write_49 : decode cX5_write 49 = .ok (.putfield 69, 3) := by decide +kernel
theorem dX5_write_52 : decode cX5_write 52 = .ok (.aload_n 0, 1) := by decide +kernel
theorem dX5_write_53 : decode cX5_write 53 = .ok (.getfield 69, 3) := by decide +kernel
theorem dX5_write_56 : decode cX5_write 56 = .ok (.ireturn, 1) := by decide +kernel
theorem dX5_wipe_0 : decode cX5_wipe 0 = .ok (.aload_n 0, 1) := by decide +kernel
theorem dX5_wipe_1 : decode cX5_wipe 1 = .ok (.iconst 0, 1) := by decide +kernel
theorem dX5_wipe_2 : decode cX5_wipe 2 = .ok (.putfield 57, 3) := by decide +kernel
theorem dX5_wipe_5 : decode cX5_wipe 5 = .ok (.aload_n 0, 1) := by decide +kernel
theorem dX5_wipe_6 : decode cX5_wipe 6 = .ok (.getfield 69, 3) := by decide +kernel
theorem dX5_wipe_9 : decode cX5_wipe 9 = .ok (.istore_n 1, 1) := by decide +kernel
theorem dX5_wipe_10 : decode cX5_wipe 10 = .ok (.aload_n 0, 1) := by decide +kernel
theorem dX5_wipe_11 : decode cX5_wipe 11 = .ok (.iconst 0, 1) := by decide +kernel
theorem dX5_wipe_12 : decode cX5_wipe 12 = .ok (.putfield 69, 3) := by decide +kernel
theorem dX5_wipe_15 : decode cX5_wipe 15 = .ok (.iload_n 1, 1) := by decide +kernel
theorem dX5_wipe_16 : decode cX5_wipe 16 = .ok (.ireturn, 1) := by decide +kernel
set_option maxRecDepth 20000 in
theorem ggX5_figure_X5_in : GoodIn wsX5_figure wsX5_in := goodIn_r _ [7] (by decide +kernel) (by decide +kernel)
set_option maxRecDepth 20000 in
theorem gX5_figure_X5_in : GoodIn wsX5_figure (va_wsS RX5 63 yX5_in wsX5_in) := goodIn_app (goodIn_of _ (by decide +kernel)) ggX5_figure_X5_in
theorem dX5_figure_0 : decode cX5_figure 0 = .ok (.aload_n 0, 1) := by decide +kernel
theorem dX5_figure_1 : decode cX5_figure 1 = .ok (.getfield 72, 3) := by decide +kernel
theorem dX5_figure_4 : decode cX5_figure 4 = .ok (.aload_n 0, 1) := by decide +kernel
theorem dX5_figure_5 : decode cX5_figure 5 = .ok (.getfield 69, 3) := by decide +kernel
theorem dX5_figure_8 : decode cX5_figure 8 = .ok (.if_icmp .eq 26, 3) := by decide +kernel
theorem dX5_figure_11 : decode cX5_figure 11 = .ok (.aload_n 0, 1) := by decide +kernel
theorem dX5_figure_12 : decode cX5_figure 12 = .ok (.getfield 7, 3) := by decide +kernel
theorem dX5_figure_15 : decode cX5_figure 15 = .ok (.aload_n 0, 1) := by decide +kernel
theorem dX5_figure_16 : decode cX5_figure 16 = .ok (.getfield 72, 3) := by decide +kernel
theorem dX5_figure_19 : decode cX5_figure 19 = .ok (.iaload, 1) := by decide +kernel
theorem dX5_figure_20 : decode cX5_figure 20 = .ok (.bipush 48, 2) := by decide +kernel
theorem dX5_figure_22 : decode cX5_figure 22 = .ok (.isub, 1) := by decide +kernel
theorem dX5_figure_23 : decode cX5_figure 23 = .ok (.i2l, 1) := by decide +kernel
theorem dX5_figure_24 : decode cX5_figure 24 = .ok (.iload_n 1, 1) := by decide +kernel
theorem dX5_figure_25 : decode cX5_figure 25 = .ok (.i2l, 1) := by decide +kernel
theorem dX5_figure_26 : decode cX5_figure 26 = .ok (.iload_n 2, 1) := by decide +kernel
theorem dX5_figure_27 : decode cX5_figure 27 = .ok (.i2l, 1) := by decide +kernel
theorem dX5_figure_28 : decode cX5_figure 28 = .ok (.invokestatic 63, 3) := by decide +kernel
theorem dX5_figure_31 : decode cX5_figure 31 = .ok (.ifCond .ne 6, 3) := by decide +kernel
theorem dX5_figure_34 : decode cX5_figure 34 = .ok (.bipush (-9), 2) := by decide +kernel
theorem dX5_figure_36 : decode cX5_figure 36 = .ok (.ireturn, 1) := by decide +kernel
theorem dX5_figure_37 : decode cX5_figure 37 = .ok (.aload_n 0, 1) := by decide +kernel
theorem dX5_figure_38 : decode cX5_figure 38 = .ok (.dup, 1) := by decide +kernel
theorem dX5_figure_39 : decode cX5_figure 39 = .ok (.getfield 72, 3) := by decide +kernel
theorem dX5_figure_42 : decode cX5_figure 42 = .ok (.iconst 1, 1) := by decide +kernel
theorem dX5_figure_43 : decode cX5_figure 43 = .ok (.iadd, 1) := by decide +kernel
theorem dX5_figure_44 : decode cX5_figure 44 = .ok (.putfield 72, 3) := by decide +kernel
theorem dX5_figure_47 : decode cX5_figure 47 = .ok (.aload_n 0, 1) := by decide +kernel
theorem dX5_figure_48 : decode cX5_figure 48 = .ok (.getfield 7, 3) := by decide +kernel
theorem dX5_figure_51 : decode cX5_figure 51 = .ok (.aload_n 0, 1) := by decide +kernel
theorem dX5_figure_52 : decode cX5_figure 52 = .ok (.getfield 72, 3) := by decide +kernel
theorem dX5_figure_55 : decode cX5_figure 55 = .ok (.iconst 1, 1) := by decide +kernel
theorem dX5_figure_56 : decode cX5_figure 56 = .ok (.isub, 1) := by decide +kernel
theorem dX5_figure_57 : decode cX5_figure 57 = .ok (.iaload, 1) := by decide +kernel
theorem dX5_figure_58 : decode cX5_figure 58 = .ok (.bipush 48, 2) := by decide +kernel
theorem dX5_figure_60 : decode cX5_figure 60 = .ok (.isub, 1) := by decide +kernel
theorem dX5_figure_61 : decode cX5_figure 61 = .ok (.ireturn, 1) := by decide +kernel
set_option maxRecDepth 20000 in
theorem ggX5_readGorge_X5_figure : GoodIn wsX5_readGorge wsX5_figure := goodIn_r _ [13, 1, 3, 4, 14, 15, 12, 16, 17, 18, 19, 20, 21, 22, 23, 24, 25, 26, 27, 28, 29, 30, 31, 32, 33, 34, 35, 36, 37, 38, 39, 40, 41, 42, 43, 44] (by decide +kernel) (by decide +kernel)
set_option maxRecDepth 20000 in
theorem gX5_readGorge_X5_figure : GoodIn wsX5_readGorge (wsV RX5 78 RX5 yX5_figure wsX5_figure) := goodIn_app (goodIn_of _ (by decide +kernel)) ggX5_readGorge_X5_figure
theorem dX5_readGorge_0 : decode cX5_readGorge 0 = .ok (.aload_n 0, 1) := by decide +kernel
theorem dX5_readGorge_1 : decode cX5_readGorge 1 = .ok (.iconst 0, 1) := by decide +kernel
theorem dX5_readGorge_2 : decode cX5_readGorge 2 = .ok (.putfield 72, 3) := by decide +kernel
theorem dX5_readGorge_5 : decode cX5_readGorge 5 = .ok (.aload_n 0, 1) := by decide +kernel
theorem dX5_readGorge_6 : decode cX5_readGorge 6 = .ok (.iconst 0, 1) := by decide +kernel
theorem dX5_readGorge_7 : decode cX5_readGorge 7 = .ok (.putfield 75, 3) := by decide +kernel
theorem dX5_readGorge_10 : decode cX5_readGorge 10 = .ok (.aload_n 0, 1) := by decide +kernel
theorem dX5_readGorge_11 : decode cX5_readGorge 11 = .ok (.getfield 69, 3) := by decide +kernel
theorem dX5_readGorge_14 : decode cX5_readGorge 14 = .ok (.ifCond .eq 14, 3) := by decide +kernel
theorem dX5_readGorge_17 : decode cX5_readGorge 17 = .ok (.aload_n 0, 1) := by decide +kernel
theorem dX5_readGorge_18 : decode cX5_readGorge 18 = .ok (.getfield 7, 3) := by decide +kernel
theorem dX5_readGorge_21 : decode cX5_readGorge 21 = .ok (.iconst 0, 1) := by decide +kernel
theorem dX5_readGorge_22 : decode cX5_readGorge 22 = .ok (.iaload, 1) := by decide +kernel
theorem dX5_readGorge_23 : decode cX5_readGorge 23 = .ok (.bipush 71, 2) := by decide +kernel
theorem dX5_readGorge_25 : decode cX5_readGorge 25 = .ok (.if_icmp .eq 5, 3) := by decide +kernel
theorem dX5_readGorge_28 : decode cX5_readGorge 28 = .ok (.iconst 0, 1) := by decide +kernel
theorem dX5_readGorge_29 : decode cX5_readGorge 29 = .ok (.ireturn, 1) := by decide +kernel
theorem dX5_readGorge_30 : decode cX5_readGorge 30 = .ok (.aload_n 0, 1) := by decide +kernel
theorem dX5_readGorge_31 : decode cX5_readGorge 31 = .ok (.iconst 1, 1) := by decide +kernel
theorem dX5_readGorge_32 : decode cX5_readGorge 32 = .ok (.putfield 72, 3) := by decide +kernel
theorem dX5_readGorge_35 : decode cX5_readGorge 35 = .ok (.aload_n 0, 1) := by decide +kernel
theorem dX5_readGorge_36 : decode cX5_readGorge 36 = .ok (.aload_n 0, 1) := by decide +kernel
theorem dX5_readGorge_37 : decode cX5_readGorge 37 = .ok (.iconst 1, 1) := by decide +kernel
theorem dX5_readGorge_38 : decode cX5_readGorge 38 = .ok (.bipush 9, 2) := by decide +kernel
theorem dX5_readGorge_40 : decode cX5_readGorge 40 = .ok (.invokevirtual 78, 3) := by decide +kernel
theorem dX5_readGorge_43 : decode cX5_readGorge 43 = .ok (.putfield 82, 3) := by decide +kernel
theorem dX5_readGorge_46 : decode cX5_readGorge 46 = .ok (.aload_n 0, 1) := by decide +kernel
theorem dX5_readGorge_47 : decode cX5_readGorge 47 = .ok (.aload_n 0, 1) := by decide +kernel
theorem dX5_readGorge_48 : decode cX5_readGorge 48 = .ok (.getfield 82, 3) := by decide +kernel
theorem dX5_readGorge_51 : decode cX5_readGorge 51 = .ok (.bipush (-9), 2) := by decide +kernel
theorem dX5_readGorge_53 : decode cX5_readGorge 53 = .ok (.if_icmp .ne 8, 3) := by decide +kernel
theorem dX5_readGorge_56 : decode cX5_readGorge 56 = .ok (.bipush (-9), 2) := by decide +kernel
theorem dX5_readGorge_58 : decode cX5_readGorge 58 = .ok (.goto 10, 3) := by decide +kernel
theorem dX5_readGorge_61 : decode cX5_readGorge 61 = .ok (.aload_n 0, 1) := by decide +kernel
theorem dX5_readGorge_62 : decode cX5_readGorge 62 = .ok (.iconst 0, 1) := by decide +kernel
theorem dX5_readGorge_63 : decode cX5_readGorge 63 = .ok (.bipush 9, 2) := by decide +kernel
theorem dX5_readGorge_65 : decode cX5_readGorge 65 = .ok (.invokevirtual 78, 3) := by decide +kernel
theorem dX5_readGorge_68 : decode cX5_readGorge 68 = .ok (.putfield 85, 3) := by decide +kernel
theorem dX5_readGorge_71 : decode cX5_readGorge 71 = .ok (.aload_n 0, 1) := by decide +kernel
theorem dX5_readGorge_72 : decode cX5_readGorge 72 = .ok (.getfield 85, 3) := by decide +kernel
theorem dX5_readGorge_75 : decode cX5_readGorge 75 = .ok (.bipush (-9), 2) := by decide +kernel
theorem dX5_readGorge_77 : decode cX5_readGorge 77 = .ok (.if_icmp .ne 8, 3) := by decide +kernel
theorem dX5_readGorge_80 : decode cX5_readGorge 80 = .ok (.aload_n 0, 1) := by decide +kernel
theorem dX5_readGorge_81 : decode cX5_readGorge 81 = .ok (.getfield 72, 3) := by decide +kernel
theorem dX5_readGorge_84 : decode cX5_readGorge 84 = .ok (.ireturn, 1) := by decide +kernel
theorem dX5_readGorge_85 : decode cX5_readGorge 85 = .ok (.aload_n 0, 1) := by decide +kernel
theorem dX5_readGorge_86 : decode cX5_readGorge 86 = .ok (.getfield 72, 3) := by decide +kernel
theorem dX5_readGorge_89 : decode cX5_readGorge 89 = .ok (.aload_n 0, 1) := by decide +kernel
theorem dX5_readGorge_90 : decode cX5_readGorge 90 = .ok (.getfield 69, 3) := by decide +kernel
theorem dX5_readGorge_93 : decode cX5_readGorge 93 = .ok (.if_icmp .ge 109, 3) := by decide +kernel
theorem dX5_readGorge_96 : decode cX5_readGorge 96 = .ok (.aload_n 0, 1) := by decide +kernel
theorem dX5_readGorge_97 : decode cX5_readGorge 97 = .ok (.getfield 7, 3) := by decide +kernel
theorem dX5_readGorge_100 : decode cX5_readGorge 100 = .ok (.aload_n 0, 1) := by decide +kernel
theorem dX5_readGorge_101 : decode cX5_readGorge 101 = .ok (.getfield 72, 3) := by decide +kernel
theorem dX5_readGorge_104 : decode cX5_readGorge 104 = .ok (.iaload, 1) := by decide +kernel
theorem dX5_readGorge_105 : decode cX5_readGorge 105 = .ok (.bipush 87, 2) := by decide +kernel
theorem dX5_readGorge_107 : decode cX5_readGorge 107 = .ok (.if_icmp .ne 11, 3) := by decide +kernel
theorem dX5_readGorge_110 : decode cX5_readGorge 110 = .ok (.aload_n 0, 1) := by decide +kernel
theorem dX5_readGorge_111 : decode cX5_readGorge 111 = .ok (.getfield 75, 3) := by decide +kernel
theorem dX5_readGorge_114 : decode cX5_readGorge 114 = .ok (.iconst 5, 1) := by decide +kernel
theorem dX5_readGorge_115 : decode cX5_readGorge 115 = .ok (.if_icmp .ne 8, 3) := by decide +kernel
theorem dX5_readGorge_118 : decode cX5_readGorge 118 = .ok (.aload_n 0, 1) := by decide +kernel
theorem dX5_readGorge_119 : decode cX5_readGorge 119 = .ok (.getfield 72, 3) := by decide +kernel
theorem dX5_readGorge_122 : decode cX5_readGorge 122 = .ok (.ireturn, 1) := by decide +kernel
theorem dX5_readGorge_123 : decode cX5_readGorge 123 = .ok (.aload_n 0, 1) := by decide +kernel
theorem dX5_readGorge_124 : decode cX5_readGorge 124 = .ok (.dup, 1) := by decide +kernel
theorem dX5_readGorge_125 : decode cX5_readGorge 125 = .ok (.getfield 72, 3) := by decide +kernel
theorem dX5_readGorge_128 : decode cX5_readGorge 128 = .ok (.iconst 1, 1) := by decide +kernel
theorem dX5_readGorge_129 : decode cX5_readGorge 129 = .ok (.iadd, 1) := by decide +kernel
theorem dX5_readGorge_130 : decode cX5_readGorge 130 = .ok (.putfield 72, 3) := by decide +kernel
theorem dX5_readGorge_133 : decode cX5_readGorge 133 = .ok (.aload_n 0, 1) := by decide +kernel
theorem dX5_readGorge_134 : decode cX5_readGorge 134 = .ok (.iconst 0, 1) := by decide +kernel
theorem dX5_readGorge_135 : decode cX5_readGorge 135 = .ok (.iconst 5, 1) := by decide +kernel
theorem dX5_readGorge_136 : decode cX5_readGorge 136 = .ok (.invokevirtual 78, 3) := by decide +kernel
theorem dX5_readGorge_139 : decode cX5_readGorge 139 = .ok (.istore_n 1, 1) := by decide +kernel
theorem dX5_readGorge_140 : decode cX5_readGorge 140 = .ok (.iload_n 1, 1) := by decide +kernel
theorem dX5_readGorge_141 : decode cX5_readGorge 141 = .ok (.bipush (-9), 2) := by decide +kernel
theorem dX5_readGorge_143 : decode cX5_readGorge 143 = .ok (.if_icmp .ne 8, 3) := by decide +kernel
theorem dX5_readGorge_146 : decode cX5_readGorge 146 = .ok (.bipush (-9), 2) := by decide +kernel
theorem dX5_readGorge_148 : decode cX5_readGorge 148 = .ok (.goto 9, 3) := by decide +kernel
theorem dX5_readGorge_151 : decode cX5_readGorge 151 = .ok (.aload_n 0, 1) := by decide +kernel
theorem dX5_readGorge_152 : decode cX5_readGorge 152 = .ok (.iconst 0, 1) := by decide +kernel
theorem dX5_readGorge_153 : decode cX5_readGorge 153 = .ok (.iconst 3, 1) := by decide +kernel
theorem dX5_readGorge_154 : decode cX5_readGorge 154 = .ok (.invokevirtual 78, 3) := by decide +kernel
theorem dX5_readGorge_157 : decode cX5_readGorge 157 = .ok (.istore_n 2, 1) := by decide +kernel
theorem dX5_readGorge_158 : decode cX5_readGorge 158 = .ok (.iload_n 2, 1) := by decide +kernel
theorem dX5_readGorge_159 : decode cX5_readGorge 159 = .ok (.bipush (-9), 2) := by decide +kernel
theorem dX5_readGorge_161 : decode cX5_readGorge 161 = .ok (.if_icmp .ne 8, 3) := by decide +kernel
theorem dX5_readGorge_164 : decode cX5_readGorge 164 = .ok (.aload_n 0, 1) := by decide +kernel
theorem dX5_readGorge_165 : decode cX5_readGorge 165 = .ok (.getfield 72, 3) := by decide +kernel
theorem dX5_readGorge_168 : decode cX5_readGorge 168 = .ok (.ireturn, 1) := by decide +kernel
theorem dX5_readGorge_169 : decode cX5_readGorge 169 = .ok (.aload_n 0, 1) := by decide +kernel
theorem dX5_readGorge_170 : decode cX5_readGorge 170 = .ok (.getfield 26, 3) := by decide +kernel
theorem dX5_readGorge_173 : decode cX5_readGorge 173 = .ok (.aload_n 0, 1) := by decide +kernel
theorem dX5_readGorge_174 : decode cX5_readGorge 174 = .ok (.getfield 75, 3) := by decide +kernel
theorem dX5_readGorge_177 : decode cX5_readGorge 177 = .ok (.iload_n 1, 1) := by decide +kernel
theorem dX5_readGorge_178 : decode cX5_readGorge 178 = .ok (.iastore, 1) := by decide +kernel
theorem dX5_readGorge_179 : decode cX5_readGorge 179 = .ok (.aload_n 0, 1) := by decide +kernel
theorem dX5_readGorge_180 : decode cX5_readGorge 180 = .ok (.getfield 29, 3) := by decide +kernel
theorem dX5_readGorge_183 : decode cX5_readGorge 183 = .ok (.aload_n 0, 1) := by decide +kernel
theorem dX5_readGorge_184 : decode cX5_readGorge 184 = .ok (.getfield 75, 3) := by decide +kernel
theorem dX5_readGorge_187 : decode cX5_readGorge 187 = .ok (.iload_n 2, 1) := by decide +kernel
theorem dX5_readGorge_188 : decode cX5_readGorge 188 = .ok (.iastore, 1) := by decide +kernel
theorem dX5_readGorge_189 : decode cX5_readGorge 189 = .ok (.aload_n 0, 1) := by decide +kernel
theorem dX5_readGorge_190 : decode cX5_readGorge 190 = .ok (.dup, 1) := by decide +kernel
theorem dX5_readGorge_191 : decode cX5_readGorge 191 = .ok (.getfield 75, 3) := by decide +kernel
theorem dX5_readGorge_194 : decode cX5_readGorge 194 = .ok (.iconst 1, 1) := by decide +kernel
theorem dX5_readGorge_195 : decode cX5_readGorge 195 = .ok (.iadd, 1) := by decide +kernel
theorem dX5_readGorge_196 : decode cX5_readGorge 196 = .ok (.putfield 75, 3) := by decide +kernel
theorem dX5_readGorge_199 : decode cX5_readGorge 199 = .ok (.goto (-114), 3) := by decide +kernel
theorem dX5_readGorge_202 : decode cX5_readGorge 202 = .ok (.bipush (-9), 2) := by decide +kernel
theorem dX5_readGorge_204 : decode cX5_readGorge 204 = .ok (.ireturn, 1) := by decide +kernel
set_option maxRecDepth 20000 in
theorem ggX5_fault_X5_readGorge : GoodIn wsX5_fault wsX5_readGorge := goodIn_r _ [6, 7, 8, 9, 10, 11, 12, 13, 14, 15, 16, 17, 5, 18, 19, 20, 21, 22, 23, 24, 25, 26, 27, 28, 29, 30, 31, 32, 33, 34, 35, 36, 37, 38, 39, 40, 41, 42, 43, 44, 45, 46, 47, 48, 49] (by decide +kernel) (by decide +kernel)
set_option maxRecDepth 20000 in
theorem gX5_fault_X5_readGorge : GoodIn wsX5_fault (wsV RX5 88 RX5 yX5_readGorge wsX5_readGorge) := goodIn_app (goodIn_of _ (by decide +kernel)) ggX5_fault_X5_readGorge
theorem dX5_fault_0 : decode cX5_fault 0 = .ok (.aload_n 0, 1) := by decide +kernel
theorem dX5_fault_1 : decode cX5_fault 1 = .ok (.iconst 0, 1) := by decide +kernel
theorem dX5_fault_2 : decode cX5_fault 2 = .ok (.putfield 57, 3) := by decide +kernel
theorem dX5_fault_5 : decode cX5_fault 5 = .ok (.aload_n 0, 1) := by decide +kernel
theorem dX5_fault_6 : decode cX5_fault 6 = .ok (.invokevirtual 88, 3) := by decide +kernel
theorem dX5_fault_9 : decode cX5_fault 9 = .ok (.ireturn, 1) := by decide +kernel
set_option maxRecDepth 20000 in
theorem ggX5_gorge_X5_readGorge : GoodIn wsX5_gorge wsX5_readGorge := goodIn_r _ [19, 20, 2, 21, 22, 4, 6, 10, 12, 23, 24, 25, 18, 26, 27, 28, 29, 30, 31, 32, 33, 34, 35, 36, 37, 38, 39, 40, 41, 42, 43, 44, 45, 46, 47, 48, 49, 50, 51, 52, 53, 54, 55, 56, 57] (by decide +kernel) (by decide +kernel)
set_option maxRecDepth 20000 in
theorem gX5_gorge_X5_readGorge : GoodIn wsX5_gorge (wsV RX5 88 RX5 yX5_readGorge wsX5_readGorge) := goodIn_app (goodIn_of _ (by decide +kernel)) ggX5_gorge_X5_readGorge
theorem dX5_gorge_0 : decode cX5_gorge 0 = .ok (.aload_n 0, 1) := by decide +kernel
theorem dX5_gorge_1 : decode cX5_gorge 1 = .ok (.iconst 0, 1) := by decide +kernel
theorem dX5_gorge_2 : decode cX5_gorge 2 = .ok (.putfield 57, 3) := by decide +kernel
theorem dX5_gorge_5 : decode cX5_gorge 5 = .ok (.aload_n 0, 1) := by decide +kernel
theorem dX5_gorge_6 : decode cX5_gorge 6 = .ok (.invokevirtual 88, 3) := by decide +kernel
theorem dX5_gorge_9 : decode cX5_gorge 9 = .ok (.bipush (-9), 2) := by decide +kernel
theorem dX5_gorge_11 : decode cX5_gorge 11 = .ok (.if_icmp .eq 6, 3) := by decide +kernel
theorem dX5_gorge_14 : decode cX5_gorge 14 = .ok (.bipush (-3), 2) := by decide +kernel
theorem dX5_gorge_16 : decode cX5_gorge 16 = .ok (.ireturn, 1) := by decide +kernel
theorem dX5_gorge_17 : decode cX5_gorge 17 = .ok (.aload_n 0, 1) := by decide +kernel
theorem dX5_gorge_18 : decode cX5_gorge 18 = .ok (.aload_n 0, 1) := by decide +kernel
theorem dX5_gorge_19 : decode cX5_gorge 19 = .ok (.getfield 75, 3) := by decide +kernel
theorem dX5_gorge_22 : decode cX5_gorge 22 = .ok (.putfield 60, 3) := by decide +kernel
theorem dX5_gorge_25 : decode cX5_gorge 25 = .ok (.aload_n 0, 1) := by decide +kernel
theorem dX5_gorge_26 : decode cX5_gorge 26 = .ok (.aload_n 0, 1) := by decide +kernel
theorem dX5_gorge_27 : decode cX5_gorge 27 = .ok (.getfield 82, 3) := by decide +kernel
theorem dX5_gorge_30 : decode cX5_gorge 30 = .ok (.putfield 13, 3) := by decide +kernel
theorem dX5_gorge_33 : decode cX5_gorge 33 = .ok (.aload_n 0, 1) := by decide +kernel
theorem dX5_gorge_34 : decode cX5_gorge 34 = .ok (.aload_n 0, 1) := by decide +kernel
theorem dX5_gorge_35 : decode cX5_gorge 35 = .ok (.getfield 85, 3) := by decide +kernel
theorem dX5_gorge_38 : decode cX5_gorge 38 = .ok (.putfield 17, 3) := by decide +kernel
theorem dX5_gorge_41 : decode cX5_gorge 41 = .ok (.iconst 0, 1) := by decide +kernel
theorem dX5_gorge_42 : decode cX5_gorge 42 = .ok (.istore_n 1, 1) := by decide +kernel
theorem dX5_gorge_43 : decode cX5_gorge 43 = .ok (.iload_n 1, 1) := by decide +kernel
theorem dX5_gorge_44 : decode cX5_gorge 44 = .ok (.bipush 13, 2) := by decide +kernel
theorem dX5_gorge_46 : decode cX5_gorge 46 = .ok (.if_icmp .ge 16, 3) := by decide +kernel
theorem dX5_gorge_49 : decode cX5_gorge 49 = .ok (.aload_n 0, 1) := by decide +kernel
theorem dX5_gorge_50 : decode cX5_gorge 50 = .ok (.getfield 32, 3) := by decide +kernel
theorem dX5_gorge_53 : decode cX5_gorge 53 = .ok (.iload_n 1, 1) := by decide +kernel
theorem dX5_gorge_54 : decode cX5_gorge 54 = .ok (.iconst 0, 1) := by decide +kernel
theorem dX5_gorge_55 : decode cX5_gorge 55 = .ok (.iastore, 1) := by decide +kernel
theorem dX5_gorge_56 : decode cX5_gorge 56 = .ok (.iinc 1 1, 3) := by decide +kernel
theorem dX5_gorge_59 : decode cX5_gorge 59 = .ok (.goto (-16), 3) := by decide +kernel
theorem dX5_gorge_62 : decode cX5_gorge 62 = .ok (.iconst 0, 1) := by decide +kernel
theorem dX5_gorge_63 : decode cX5_gorge 63 = .ok (.istore_n 1, 1) := by decide +kernel
theorem dX5_gorge_64 : decode cX5_gorge 64 = .ok (.iload_n 1, 1) := by decide +kernel
theorem dX5_gorge_65 : decode cX5_gorge 65 = .ok (.aload_n 0, 1) := by decide +kernel
theorem dX5_gorge_66 : decode cX5_gorge 66 = .ok (.getfield 60, 3) := by decide +kernel
theorem dX5_gorge_69 : decode cX5_gorge 69 = .ok (.if_icmp .ge 40, 3) := by decide +kernel
theorem dX5_gorge_72 : decode cX5_gorge 72 = .ok (.aload_n 0, 1) := by decide +kernel
theorem dX5_gorge_73 : decode cX5_gorge 73 = .ok (.getfield 20, 3) := by decide +kernel
theorem dX5_gorge_76 : decode cX5_gorge 76 = .ok (.iload_n 1, 1) := by decide +kernel
theorem dX5_gorge_77 : decode cX5_gorge 77 = .ok (.aload_n 0, 1) := by decide +kernel
theorem dX5_gorge_78 : decode cX5_gorge 78 = .ok (.getfield 26, 3) := by decide +kernel
theorem dX5_gorge_81 : decode cX5_gorge 81 = .ok (.iload_n 1, 1) := by decide +kernel
theorem dX5_gorge_82 : decode cX5_gorge 82 = .ok (.iaload, 1) := by decide +kernel
theorem dX5_gorge_83 : decode cX5_gorge 83 = .ok (.iastore, 1) := by decide +kernel
theorem dX5_gorge_84 : decode cX5_gorge 84 = .ok (.aload_n 0, 1) := by decide +kernel
theorem dX5_gorge_85 : decode cX5_gorge 85 = .ok (.getfield 23, 3) := by decide +kernel
theorem dX5_gorge_88 : decode cX5_gorge 88 = .ok (.iload_n 1, 1) := by decide +kernel
theorem dX5_gorge_89 : decode cX5_gorge 89 = .ok (.aload_n 0, 1) := by decide +kernel
theorem dX5_gorge_90 : decode cX5_gorge 90 = .ok (.getfield 29, 3) := by decide +kernel
theorem dX5_gorge_93 : decode cX5_gorge 93 = .ok (.iload_n 1, 1) := by decide +kernel
theorem dX5_gorge_94 : decode cX5_gorge 94 = .ok (.iaload, 1) := by decide +kernel
theorem dX5_gorge_95 : decode cX5_gorge 95 = .ok (.iastore, 1) := by decide +kernel
theorem dX5_gorge_96 : decode cX5_gorge 96 = .ok (.aload_n 0, 1) := by decide +kernel
theorem dX5_gorge_97 : decode cX5_gorge 97 = .ok (.getfield 32, 3) := by decide +kernel
theorem dX5_gorge_100 : decode cX5_gorge 100 = .ok (.iload_n 1, 1) := by decide +kernel
theorem dX5_gorge_101 : decode cX5_gorge 101 = .ok (.iload_n 1, 1) := by decide +kernel
theorem dX5_gorge_102 : decode cX5_gorge 102 = .ok (.iastore, 1) := by decide +kernel
theorem dX5_gorge_103 : decode cX5_gorge 103 = .ok (.iinc 1 1, 3) := by decide +kernel
theorem dX5_gorge_106 : decode cX5_gorge 106 = .ok (.goto (-42), 3) := by decide +kernel
theorem dX5_gorge_109 : decode cX5_gorge 109 = .ok (.aload_n 0, 1) := by decide +kernel
theorem dX5_gorge_110 : decode cX5_gorge 110 = .ok (.getfield 32, 3) := by decide +kernel
theorem dX5_gorge_113 : decode cX5_gorge 113 = .ok (.iconst 5, 1) := by decide +kernel
theorem dX5_gorge_114 : decode cX5_gorge 114 = .ok (.aload_n 0, 1) := by decide +kernel
theorem dX5_gorge_115 : decode cX5_gorge 115 = .ok (.getfield 60, 3) := by decide +kernel
theorem dX5_gorge_118 : decode cX5_gorge 118 = .ok (.iastore, 1) := by decide +kernel
theorem dX5_gorge_119 : decode cX5_gorge 119 = .ok (.aload_n 0, 1) := by decide +kernel
theorem dX5_gorge_120 : decode cX5_gorge 120 = .ok (.iconst 0, 1) := by decide +kernel
theorem dX5_gorge_121 : decode cX5_gorge 121 = .ok (.putfield 92, 3) := by decide +kernel
theorem dX5_gorge_124 : decode cX5_gorge 124 = .ok (.aload_n 0, 1) := by decide +kernel
theorem dX5_gorge_125 : decode cX5_gorge 125 = .ok (.getfield 44, 3) := by decide +kernel
theorem dX5_gorge_128 : decode cX5_gorge 128 = .ok (.iconst 0, 1) := by decide +kernel
theorem dX5_gorge_129 : decode cX5_gorge 129 = .ok (.iconst 0, 1) := by decide +kernel
theorem dX5_gorge_130 : decode cX5_gorge 130 = .ok (.bastore, 1) := by decide +kernel
theorem dX5_gorge_131 : decode cX5_gorge 131 = .ok (.aload_n 0, 1) := by decide +kernel
theorem dX5_gorge_132 : decode cX5_gorge 132 = .ok (.getfield 44, 3) := by decide +kernel
theorem dX5_gorge_135 : decode cX5_gorge 135 = .ok (.iconst 1, 1) := by decide +kernel
theorem dX5_gorge_136 : decode cX5_gorge 136 = .ok (.iconst 0, 1) := by decide +kernel
theorem dX5_gorge_137 : decode cX5_gorge 137 = .ok (.bastore, 1) := by decide +kernel
theorem dX5_gorge_138 : decode cX5_gorge 138 = .ok (.aload_n 0, 1) := by decide +kernel
theorem dX5_gorge_139 : decode cX5_gorge 139 = .ok (.getfield 60, 3) := by decide +kernel
theorem dX5_gorge_142 : decode cX5_gorge 142 = .ok (.ireturn, 1) := by decide +kernel
theorem dX5_rowOf_0 : decode cX5_rowOf 0 = .ok (.iconst 0, 1) := by decide +kernel
theorem dX5_rowOf_1 : decode cX5_rowOf 1 = .ok (.istore_n 1, 1) := by decide +kernel
theorem dX5_rowOf_2 : decode cX5_rowOf 2 = .ok (.iconst 0, 1) := by decide +kernel
theorem dX5_rowOf_3 : decode cX5_rowOf 3 = .ok (.istore_n 2, 1) := by decide +kernel
theorem dX5_rowOf_4 : decode cX5_rowOf 4 = .ok (.iload_n 2, 1) := by decide +kernel
theorem dX5_rowOf_5 : decode cX5_rowOf 5 = .ok (.aload_n 0, 1) := by decide +kernel
theorem dX5_rowOf_6 : decode cX5_rowOf 6 = .ok (.iconst 5, 1) := by decide +kernel
theorem dX5_rowOf_7 : decode cX5_rowOf 7 = .ok (.iaload, 1) := by decide +kernel
theorem dX5_rowOf_8 : decode cX5_rowOf 8 = .ok (.if_icmp .ge 17, 3) := by decide +kernel
theorem dX5_rowOf_11 : decode cX5_rowOf 11 = .ok (.iload_n 1, 1) := by decide +kernel
theorem dX5_rowOf_12 : decode cX5_rowOf 12 = .ok (.iconst 1, 1) := by decide +kernel
theorem dX5_rowOf_13 : decode cX5_rowOf 13 = .ok (.aload_n 0, 1) := by decide +kernel
theorem dX5_rowOf_14 : decode cX5_rowOf 14 = .ok (.iload_n 2, 1) := by decide +kernel
theorem dX5_rowOf_15 : decode cX5_rowOf 15 = .ok (.iaload, 1) := by decide +kernel
theorem dX5_rowOf_16 : decode cX5_rowOf 16 = .ok (.ishl, 1) := by decide +kernel
theorem dX5_rowOf_17 : decode cX5_rowOf 17 = .ok (.ior, 1) := by decide +kernel
theorem dX5_rowOf_18 : decode cX5_rowOf 18 = .ok (.istore_n 1, 1) := by decide +kernel
theorem dX5_rowOf_19 : decode cX5_rowOf 19 = .ok (.iinc 2 1, 3) := by decide +kernel
theorem dX5_rowOf_22 : decode cX5_rowOf 22 = .ok (.goto (-18), 3) := by decide +kernel
theorem dX5_rowOf_25 : decode cX5_rowOf 25 = .ok (.iload_n 1, 1) := by decide +kernel
theorem dX5_rowOf_26 : decode cX5_rowOf 26 = .ok (.ireturn, 1) := by decide +kernel
theorem dX5_figuresOf_0 : decode cX5_figuresOf 0 = .ok (.iconst 0, 1) := by decide +kernel
theorem dX5_figuresOf_1 : decode cX5_figuresOf 1 = .ok (.istore_n 1, 1) := by decide +kernel
theorem dX5_figuresOf_2 : decode cX5_figuresOf 2 = .ok (.iconst 0, 1) := by decide +kernel
theorem dX5_figuresOf_3 : decode cX5_figuresOf 3 = .ok (.istore_n 2, 1) := by decide +kernel
theorem dX5_figuresOf_4 : decode cX5_figuresOf 4 = .ok (.iload_n 2, 1) := by decide +kernel
theorem dX5_figuresOf_5 : decode cX5_figuresOf 5 = .ok (.aload_n 0, 1) := by decide +kernel
theorem dX5_figuresOf_6 : decode cX5_figuresOf 6 = .ok (.iconst 5, 1) := by decide +kernel
theorem dX5_figuresOf_7 : decode cX5_figuresOf 7 = .ok (.iaload, 1) := by decide +kernel
theorem dX5_figuresOf_8 : decode cX5_figuresOf 8 = .ok (.if_icmp .ge 20, 3) := by decide +kernel
theorem dX5_figuresOf_11 : decode cX5_figuresOf 11 = .ok (.bipush 10, 2) := by decide +kernel
theorem dX5_figuresOf_13 : decode cX5_figuresOf 13 = .ok (.iload_n 1, 1) := by decide +kernel
theorem dX5_figuresOf_14 : decode cX5_figuresOf 14 = .ok (.imul, 1) := by decide +kernel
theorem dX5_figuresOf_15 : decode cX5_figuresOf 15 = .ok (.aload_n 0, 1) := by decide +kernel
theorem dX5_figuresOf_16 : decode cX5_figuresOf 16 = .ok (.iload_n 2, 1) := by decide +kernel
theorem dX5_figuresOf_17 : decode cX5_figuresOf 17 = .ok (.iaload, 1) := by decide +kernel
theorem dX5_figuresOf_18 : decode cX5_figuresOf 18 = .ok (.iadd, 1) := by decide +kernel
theorem dX5_figuresOf_19 : decode cX5_figuresOf 19 = .ok (.iconst 1, 1) := by decide +kernel
theorem dX5_figuresOf_20 : decode cX5_figuresOf 20 = .ok (.iadd, 1) := by decide +kernel
theorem dX5_figuresOf_21 : decode cX5_figuresOf 21 = .ok (.istore_n 1, 1) := by decide +kernel
theorem dX5_figuresOf_22 : decode cX5_figuresOf 22 = .ok (.iinc 2 1, 3) := by decide +kernel
theorem dX5_figuresOf_25 : decode cX5_figuresOf 25 = .ok (.goto (-21), 3) := by decide +kernel
theorem dX5_figuresOf_28 : decode cX5_figuresOf 28 = .ok (.iload_n 1, 1) := by decide +kernel
theorem dX5_figuresOf_29 : decode cX5_figuresOf 29 = .ok (.ireturn, 1) := by decide +kernel
set_option maxRecDepth 20000 in
theorem ggX5_about_X5_rowOf : GoodIn wsX5_about wsX5_rowOf := goodIn_r _ [12] (by decide +kernel) (by decide +kernel)
set_option maxRecDepth 20000 in
theorem gX5_about_X5_rowOf : GoodIn wsX5_about (va_wsS RX5 95 yX5_rowOf wsX5_rowOf) := goodIn_app (goodIn_of _ (by decide +kernel)) ggX5_about_X5_rowOf
set_option maxRecDepth 20000 in
theorem ggX5_about_X5_figuresOf : GoodIn wsX5_about wsX5_figuresOf := goodIn_r _ [15] (by decide +kernel) (by decide +kernel)
set_option maxRecDepth 20000 in
theorem gX5_about_X5_figuresOf : GoodIn wsX5_about (va_wsS RX5 99 yX5_figuresOf wsX5_figuresOf) := goodIn_app (goodIn_of _ (by decide +kernel)) ggX5_about_X5_figuresOf
theorem dX5_about_0 : decode cX5_about 0 = .ok (.aload_n 0, 1) := by decide +kernel
theorem dX5_about_1 : decode cX5_about 1 = .ok (.iconst 0, 1) := by decide +kernel
theorem dX5_about_2 : decode cX5_about 2 = .ok (.putfield 57, 3) := by decide +kernel
theorem dX5_about_5 : decode cX5_about 5 = .ok (.iload_n 1, 1) := by decide +kernel
theorem dX5_about_6 : decode cX5_about 6 = .ok (.tableswitch 140 0 10 #[58, 63, 68, 73, 81, 89, 97, 105, 110, 115, 120], 58) := by decide +kernel
theorem dX5_about_64 : decode cX5_about 64 = .ok (.aload_n 0, 1) := by decide +kernel
theorem dX5_about_65 : decode cX5_about 65 = .ok (.getfield 60, 3) := by decide +kernel
theorem dX5_about_68 : decode cX5_about 68 = .ok (.ireturn, 1) := by decide +kernel
theorem dX5_about_69 : decode cX5_about 69 = .ok (.aload_n 0, 1) := by decide +kernel
theorem dX5_about_70 : decode cX5_about 70 = .ok (.getfield 13, 3) := by decide +kernel
theorem dX5_about_73 : decode cX5_about 73 = .ok (.ireturn, 1) := by decide +kernel
theorem dX5_about_74 : decode cX5_about 74 = .ok (.aload_n 0, 1) := by decide +kernel
theorem dX5_about_75 : decode cX5_about 75 = .ok (.getfield 17, 3) := by decide +kernel
theorem dX5_about_78 : decode cX5_about 78 = .ok (.ireturn, 1) := by decide +kernel
theorem dX5_about_79 : decode cX5_about 79 = .ok (.aload_n 0, 1) := by decide +kernel
theorem dX5_about_80 : decode cX5_about 80 = .ok (.getfield 32, 3) := by decide +kernel
theorem dX5_about_83 : decode cX5_about 83 = .ok (.bipush 11, 2) := by decide +kernel
theorem dX5_about_85 : decode cX5_about 85 = .ok (.iaload, 1) := by decide +kernel
theorem dX5_about_86 : decode cX5_about 86 = .ok (.ireturn, 1) := by decide +kernel
theorem dX5_about_87 : decode cX5_about 87 = .ok (.aload_n 0, 1) := by decide +kernel
theorem dX5_about_88 : decode cX5_about 88 = .ok (.getfield 32, 3) := by decide +kernel
theorem dX5_about_91 : decode cX5_about 91 = .ok (.invokestatic 95, 3) := by decide +kernel
theorem dX5_about_94 : decode cX5_about 94 = .ok (.ireturn, 1) := by decide +kernel
theorem dX5_about_95 : decode cX5_about 95 = .ok (.aload_n 0, 1) := by decide +kernel
theorem dX5_about_96 : decode cX5_about 96 = .ok (.getfield 32, 3) := by decide +kernel
theorem dX5_about_99 : decode cX5_about 99 = .ok (.bipush 12, 2) := by decide +kernel
theorem dX5_about_101 : decode cX5_about 101 = .ok (.iaload, 1) := by decide +kernel
theorem dX5_about_102 : decode cX5_about 102 = .ok (.ireturn, 1) := by decide +kernel
theorem dX5_about_103 : decode cX5_about 103 = .ok (.aload_n 0, 1) := by decide +kernel
theorem dX5_about_104 : decode cX5_about 104 = .ok (.getfield 32, 3) := by decide +kernel
theorem dX5_about_107 : decode cX5_about 107 = .ok (.invokestatic 99, 3) := by decide +kernel
theorem dX5_about_110 : decode cX5_about 110 = .ok (.ireturn, 1) := by decide +kernel
theorem dX5_about_111 : decode cX5_about 111 = .ok (.aload_n 0, 1) := by decide +kernel
theorem dX5_about_112 : decode cX5_about 112 = .ok (.getfield 92, 3) := by decide +kernel
theorem dX5_about_115 : decode cX5_about 115 = .ok (.ireturn, 1) := by decide +kernel
theorem dX5_about_116 : decode cX5_about 116 = .ok (.aload_n 0, 1) := by decide +kernel
theorem dX5_about_117 : decode cX5_about 117 = .ok (.getfield 102, 3) := by decide +kernel
theorem dX5_about_120 : decode cX5_about 120 = .ok (.ireturn, 1) := by decide +kernel
theorem dX5_about_121 : decode cX5_about 121 = .ok (.aload_n 0, 1) := by decide +kernel
theorem dX5_about_122 : decode cX5_about 122 = .ok (.getfield 69, 3) := by decide +kernel
theorem dX5_about_125 : decode cX5_about 125 = .ok (.ireturn, 1) := by decide +kernel
theorem dX5_about_126 : decode cX5_about 126 = .ok (.aload_n 0, 1) := by decide +kernel
theorem dX5_about_127 : decode cX5_about 127 = .ok (.getfield 32, 3) := by decide +kernel
theorem dX5_about_130 : decode cX5_about 130 = .ok (.bipush 11, 2) := by decide +kernel
theorem dX5_about_132 : decode cX5_about 132 = .ok (.iaload, 1) := by decide +kernel
theorem dX5_about_133 : decode cX5_about 133 = .ok (.aload_n 0, 1) := by decide +kernel
theorem dX5_about_134 : decode cX5_about 134 = .ok (.getfield 13, 3) := by decide +kernel
theorem dX5_about_137 : decode cX5_about 137 = .ok (.if_icmp .ne 7, 3) := by decide +kernel
theorem dX5_about_140 : decode cX5_about 140 = .ok (.iconst 1, 1) := by decide +kernel
theorem dX5_about_141 : decode cX5_about 141 = .ok (.goto 4, 3) := by decide +kernel
theorem dX5_about_144 : decode cX5_about 144 = .ok (.iconst 0, 1) := by decide +kernel
theorem dX5_about_145 : decode cX5_about 145 = .ok (.ireturn, 1) := by decide +kernel
theorem dX5_about_146 : decode cX5_about 146 = .ok (.bipush (-2), 2) := by decide +kernel
theorem dX5_about_148 : decode cX5_about 148 = .ok (.ireturn, 1) := by decide +kernel
theorem dX5_placeOf_0 : decode cX5_placeOf 0 = .ok (.bipush (-9), 2) := by decide +kernel
theorem dX5_placeOf_2 : decode cX5_placeOf 2 = .ok (.istore_n 2, 1) := by decide +kernel
theorem dX5_placeOf_3 : decode cX5_placeOf 3 = .ok (.iconst 0, 1) := by decide +kernel
theorem dX5_placeOf_4 : decode cX5_placeOf 4 = .ok (.istore_n 3, 1) := by decide +kernel
theorem dX5_placeOf_5 : decode cX5_placeOf 5 = .ok (.iload_n 3, 1) := by decide +kernel
theorem dX5_placeOf_6 : decode cX5_placeOf 6 = .ok (.aload_n 0, 1) := by decide +kernel
theorem dX5_placeOf_7 : decode cX5_placeOf 7 = .ok (.iconst 5, 1) := by decide +kernel
theorem dX5_placeOf_8 : decode cX5_placeOf 8 = .ok (.iaload, 1) := by decide +kernel
theorem dX5_placeOf_9 : decode cX5_placeOf 9 = .ok (.if_icmp .ge 22, 3) := by decide +kernel
theorem dX5_placeOf_12 : decode cX5_placeOf 12 = .ok (.aload_n 0, 1) := by decide +kernel
theorem dX5_placeOf_13 : decode cX5_placeOf 13 = .ok (.iload_n 3, 1) := by decide +kernel
theorem dX5_placeOf_14 : decode cX5_placeOf 14 = .ok (.iaload, 1) := by decide +kernel
theorem dX5_placeOf_15 : decode cX5_placeOf 15 = .ok (.iload_n 1, 1) := by decide +kernel
theorem dX5_placeOf_16 : decode cX5_placeOf 16 = .ok (.if_icmp .ne 7, 3) := by decide +kernel
theorem dX5_placeOf_19 : decode cX5_placeOf 19 = .ok (.iload_n 3, 1) := by decide +kernel
theorem dX5_placeOf_20 : decode cX5_placeOf 20 = .ok (.goto 4, 3) := by decide +kernel
theorem dX5_placeOf_23 : decode cX5_placeOf 23 = .ok (.iload_n 2, 1) := by decide +kernel
theorem dX5_placeOf_24 : decode cX5_placeOf 24 = .ok (.istore_n 2, 1) := by decide +kernel
theorem dX5_placeOf_25 : decode cX5_placeOf 25 = .ok (.iinc 3 1, 3) := by decide +kernel
theorem dX5_placeOf_28 : decode cX5_placeOf 28 = .ok (.goto (-23), 3) := by decide +kernel
theorem dX5_placeOf_31 : decode cX5_placeOf 31 = .ok (.iload_n 2, 1) := by decide +kernel
theorem dX5_placeOf_32 : decode cX5_placeOf 32 = .ok (.ireturn, 1) := by decide +kernel
set_option maxRecDepth 20000 in
theorem ggX5_walker_X5_noOne : GoodIn wsX5_walker wsX5_noOne := goodIn_r _ [9, 10, 11, 12, 8, 13, 17, 18, 19, 20, 21, 22, 23, 24, 25, 26, 27, 28, 29, 30, 31, 32, 33, 34, 35, 36, 37, 38, 39, 40, 41, 42, 43, 44] (by decide +kernel) (by decide +kernel)
set_option maxRecDepth 20000 in
theorem gX5_walker_X5_noOne : GoodIn wsX5_walker (wsV RX5 105 RX5 yX5_noOne wsX5_noOne) := goodIn_app (goodIn_of _ (by decide +kernel)) ggX5_walker_X5_noOne
set_option maxRecDepth 20000 in
theorem ggX5_walker_X5_placeOf : GoodIn wsX5_walker wsX5_placeOf := goodIn_r _ [16] (by decide +kernel) (by decide +kernel)
set_option maxRecDepth 20000 in
theorem gX5_walker_X5_placeOf : GoodIn wsX5_walker (va_wsS RX5 109 yX5_placeOf wsX5_placeOf) := goodIn_app (goodIn_of _ (by decide +kernel)) ggX5_walker_X5_placeOf
theorem dX5_walker_0 : decode cX5_walker 0 = .ok (.aload_n 0, 1) := by decide +kernel
theorem dX5_walker_1 : decode cX5_walker 1 = .ok (.iconst 0, 1) := by decide +kernel
theorem dX5_walker_2 : decode cX5_walker 2 = .ok (.putfield 57, 3) := by decide +kernel
theorem dX5_walker_5 : decode cX5_walker 5 = .ok (.aload_n 0, 1) := by decide +kernel
theorem dX5_walker_6 : decode cX5_walker 6 = .ok (.iload_n 1, 1) := by decide +kernel
theorem dX5_walker_7 : decode cX5_walker 7 = .ok (.invokevirtual 105, 3) := by decide +kernel
theorem dX5_walker_10 : decode cX5_walker 10 = .ok (.ifCond .eq 5, 3) := by decide +kernel
theorem dX5_walker_13 : decode cX5_walker 13 = .ok (.iconst (-1), 1) := by decide +kernel
theorem dX5_walker_14 : decode cX5_walker 14 = .ok (.ireturn, 1) := by decide +kernel
theorem dX5_walker_15 : decode cX5_walker 15 = .ok (.aload_n 0, 1) := by decide +kernel
theorem dX5_walker_16 : decode cX5_walker 16 = .ok (.getfield 32, 3) := by decide +kernel
theorem dX5_walker_19 : decode cX5_walker 19 = .ok (.iload_n 1, 1) := by decide +kernel
theorem dX5_walker_20 : decode cX5_walker 20 = .ok (.invokestatic 109, 3) := by decide +kernel
theorem dX5_walker_23 : decode cX5_walker 23 = .ok (.istore_n 3, 1) := by decide +kernel
theorem dX5_walker_24 : decode cX5_walker 24 = .ok (.iload_n 2, 1) := by decide +kernel
theorem dX5_walker_25 : decode cX5_walker 25 = .ok (.tableswitch 93 0 4 #[35, 42, 49, 59, 61], 35) := by decide +kernel
theorem dX5_walker_60 : decode cX5_walker 60 = .ok (.aload_n 0, 1) := by decide +kernel
theorem dX5_walker_61 : decode cX5_walker 61 = .ok (.getfield 20, 3) := by decide +kernel
theorem dX5_walker_64 : decode cX5_walker 64 = .ok (.iload_n 1, 1) := by decide +kernel
theorem dX5_walker_65 : decode cX5_walker 65 = .ok (.iaload, 1) := by decide +kernel
theorem dX5_walker_66 : decode cX5_walker 66 = .ok (.ireturn, 1) := by decide +kernel
theorem dX5_walker_67 : decode cX5_walker 67 = .ok (.aload_n 0, 1) := by decide +kernel
theorem dX5_walker_68 : decode cX5_walker 68 = .ok (.getfield 23, 3) := by decide +kernel
theorem dX5_walker_71 : decode cX5_walker 71 = .ok (.iload_n 1, 1) := by decide +kernel
theorem dX5_walker_72 : decode cX5_walker 72 = .ok (.iaload, 1) := by decide +kernel
theorem dX5_walker_73 : decode cX5_walker 73 = .ok (.ireturn, 1) := by decide +kernel
theorem dX5_walker_74 : decode cX5_walker 74 = .ok (.aload_n 0, 1) := by decide +kernel
theorem dX5_walker_75 : decode cX5_walker 75 = .ok (.getfield 32, 3) := by decide +kernel
theorem dX5_walker_78 : decode cX5_walker 78 = .ok (.bipush 6, 2) := by decide +kernel
theorem dX5_walker_80 : decode cX5_walker 80 = .ok (.iload_n 1, 1) := by decide +kernel
theorem dX5_walker_81 : decode cX5_walker 81 = .ok (.iadd, 1) := by decide +kernel
theorem dX5_walker_82 : decode cX5_walker 82 = .ok (.iaload, 1) := by decide +kernel
theorem dX5_walker_83 : decode cX5_walker 83 = .ok (.ireturn, 1) := by decide +kernel
theorem dX5_walker_84 : decode cX5_walker 84 = .ok (.iload_n 3, 1) := by decide +kernel
theorem dX5_walker_85 : decode cX5_walker 85 = .ok (.ireturn, 1) := by decide +kernel
theorem dX5_walker_86 : decode cX5_walker 86 = .ok (.iload_n 3, 1) := by decide +kernel
theorem dX5_walker_87 : decode cX5_walker 87 = .ok (.bipush (-9), 2) := by decide +kernel
theorem dX5_walker_89 : decode cX5_walker 89 = .ok (.if_icmp .eq 15, 3) := by decide +kernel
theorem dX5_walker_92 : decode cX5_walker 92 = .ok (.iload_n 3, 1) := by decide +kernel
theorem dX5_walker_93 : decode cX5_walker 93 = .ok (.iconst 1, 1) := by decide +kernel
theorem dX5_walker_94 : decode cX5_walker 94 = .ok (.iadd, 1) := by decide +kernel
theorem dX5_walker_95 : decode cX5_walker 95 = .ok (.aload_n 0, 1) := by decide +kernel
theorem dX5_walker_96 : decode cX5_walker 96 = .ok (.getfield 32, 3) := by decide +kernel
theorem dX5_walker_99 : decode cX5_walker 99 = .ok (.iconst 5, 1) := by decide +kernel
theorem dX5_walker_100 : decode cX5_walker 100 = .ok (.iaload, 1) := by decide +kernel
theorem dX5_walker_101 : decode cX5_walker 101 = .ok (.if_icmp .ne 8, 3) := by decide +kernel
theorem dX5_walker_104 : decode cX5_walker 104 = .ok (.bipush (-9), 2) := by decide +kernel
theorem dX5_walker_106 : decode cX5_walker 106 = .ok (.goto 11, 3) := by decide +kernel
theorem dX5_walker_109 : decode cX5_walker 109 = .ok (.aload_n 0, 1) := by decide +kernel
theorem dX5_walker_110 : decode cX5_walker 110 = .ok (.getfield 32, 3) := by decide +kernel
theorem dX5_walker_113 : decode cX5_walker 113 = .ok (.iload_n 3, 1) := by decide +kernel
theorem dX5_walker_114 : decode cX5_walker 114 = .ok (.iconst 1, 1) := by decide +kernel
theorem dX5_walker_115 : decode cX5_walker 115 = .ok (.iadd, 1) := by decide +kernel
theorem dX5_walker_116 : decode cX5_walker 116 = .ok (.iaload, 1) := by decide +kernel
theorem dX5_walker_117 : decode cX5_walker 117 = .ok (.ireturn, 1) := by decide +kernel
theorem dX5_walker_118 : decode cX5_walker 118 = .ok (.bipush (-2), 2) := by decide +kernel
theorem dX5_walker_120 : decode cX5_walker 120 = .ok (.ireturn, 1) := by decide +kernel
set_option maxRecDepth 20000 in
theorem ggX5_isHeard_X5_has : GoodIn wsX5_isHeard wsX5_has := goodIn_r _ [6] (by decide +kernel) (by decide +kernel)
set_option maxRecDepth 20000 in
theorem gX5_isHeard_X5_has : GoodIn wsX5_isHeard (va_wsS RX5 113 yX5_has wsX5_has) := goodIn_app (goodIn_of _ (by decide +kernel)) ggX5_isHeard_X5_has
theorem dX5_isHeard_0 : decode cX5_isHeard 0 = .ok (.iload_n 3, 1) := by decide +kernel
theorem dX5_isHeard_1 : decode cX5_isHeard 1 = .ok (.iload_n 2, 1) := by decide +kernel
theorem dX5_isHeard_2 : decode cX5_isHeard 2 = .ok (.invokestatic 113, 3) := by decide +kernel
theorem dX5_isHeard_5 : decode cX5_isHeard 5 = .ok (.ifCond .eq 26, 3) := by decide +kernel
theorem dX5_isHeard_8 : decode cX5_isHeard 8 = .ok (.aload_n 0, 1) := by decide +kernel
theorem dX5_isHeard_9 : decode cX5_isHeard 9 = .ok (.getfield 23, 3) := by decide +kernel
theorem dX5_isHeard_12 : decode cX5_isHeard 12 = .ok (.iload_n 2, 1) := by decide +kernel
theorem dX5_isHeard_13 : decode cX5_isHeard 13 = .ok (.iaload, 1) := by decide +kernel
theorem dX5_isHeard_14 : decode cX5_isHeard 14 = .ok (.iconst 3, 1) := by decide +kernel
theorem dX5_isHeard_15 : decode cX5_isHeard 15 = .ok (.if_icmp .ne 12, 3) := by decide +kernel
theorem dX5_isHeard_18 : decode cX5_isHeard 18 = .ok (.aload_n 1, 1) := by decide +kernel
theorem dX5_isHeard_19 : decode cX5_isHeard 19 = .ok (.bipush 11, 2) := by decide +kernel
theorem dX5_isHeard_21 : decode cX5_isHeard 21 = .ok (.iaload, 1) := by decide +kernel
theorem dX5_isHeard_22 : decode cX5_isHeard 22 = .ok (.iconst 2, 1) := by decide +kernel
theorem dX5_isHeard_23 : decode cX5_isHeard 23 = .ok (.irem, 1) := by decide +kernel
theorem dX5_isHeard_24 : decode cX5_isHeard 24 = .ok (.ifCond .ne 7, 3) := by decide +kernel
theorem dX5_isHeard_27 : decode cX5_isHeard 27 = .ok (.iconst 1, 1) := by decide +kernel
theorem dX5_isHeard_28 : decode cX5_isHeard 28 = .ok (.goto 4, 3) := by decide +kernel
theorem dX5_isHeard_31 : decode cX5_isHeard 31 = .ok (.iconst 0, 1) := by decide +kernel
theorem dX5_isHeard_32 : decode cX5_isHeard 32 = .ok (.istore 4, 2) := by decide +kernel
theorem dX5_isHeard_34 : decode cX5_isHeard 34 = .ok (.iload 4, 2) := by decide +kernel
theorem dX5_isHeard_36 : decode cX5_isHeard 36 = .ok (.ifCond .ne 24, 3) := by decide +kernel
theorem dX5_isHeard_39 : decode cX5_isHeard 39 = .ok (.aload_n 0, 1) := by decide +kernel
theorem dX5_isHeard_40 : decode cX5_isHeard 40 = .ok (.getfield 23, 3) := by decide +kernel
theorem dX5_isHeard_43 : decode cX5_isHeard 43 = .ok (.iload_n 2, 1) := by decide +kernel
theorem dX5_isHeard_44 : decode cX5_isHeard 44 = .ok (.iaload, 1) := by decide +kernel
theorem dX5_isHeard_45 : decode cX5_isHeard 45 = .ok (.iconst 2, 1) := by decide +kernel
theorem dX5_isHeard_46 : decode cX5_isHeard 46 = .ok (.if_icmp .eq 14, 3) := by decide +kernel
theorem dX5_isHeard_49 : decode cX5_isHeard 49 = .ok (.aload_n 1, 1) := by decide +kernel
theorem dX5_isHeard_50 : decode cX5_isHeard 50 = .ok (.bipush 11, 2) := by decide +kernel
theorem dX5_isHeard_52 : decode cX5_isHeard 52 = .ok (.iaload, 1) := by decide +kernel
theorem dX5_isHeard_53 : decode cX5_isHeard 53 = .ok (.aload_n 0, 1) := by decide +kernel
theorem dX5_isHeard_54 : decode cX5_isHeard 54 = .ok (.getfield 17, 3) := by decide +kernel
theorem dX5_isHeard_57 : decode cX5_isHeard 57 = .ok (.if_icmp .ne 7, 3) := by decide +kernel
theorem dX5_isHeard_60 : decode cX5_isHeard 60 = .ok (.iconst 1, 1) := by decide +kernel
theorem dX5_isHeard_61 : decode cX5_isHeard 61 = .ok (.goto 4, 3) := by decide +kernel
theorem dX5_isHeard_64 : decode cX5_isHeard 64 = .ok (.iconst 0, 1) := by decide +kernel
theorem dX5_isHeard_65 : decode cX5_isHeard 65 = .ok (.ireturn, 1) := by decide +kernel
set_option maxRecDepth 20000 in
theorem ggX5_goMinute_X5_isHeard : GoodIn wsX5_goMinute wsX5_isHeard := goodIn_r _ [8, 1, 9, 10, 11, 7, 12, 13, 14, 15, 16, 17, 18, 19, 20, 21, 22, 23, 24, 25, 26, 27, 28, 29, 30, 31, 32, 33, 34, 35, 36, 37, 38, 39, 40] (by decide +kernel) (by decide +kernel)
set_option maxRecDepth 20000 in
theorem gX5_goMinute_X5_isHeard : GoodIn wsX5_goMinute (wsV RX5 117 RX5 yX5_isHeard wsX5_isHeard) := goodIn_app (goodIn_of _ (by decide +kernel)) ggX5_goMinute_X5_isHeard
theorem dX5_goMinute_0 : decode cX5_goMinute 0 = .ok (.iconst 0, 1) := by decide +kernel
theorem dX5_goMinute_1 : decode cX5_goMinute 1 = .ok (.istore_n 3, 1) := by decide +kernel
theorem dX5_goMinute_2 : decode cX5_goMinute 2 = .ok (.iload_n 3, 1) := by decide +kernel
theorem dX5_goMinute_3 : decode cX5_goMinute 3 = .ok (.iconst 1, 1) := by decide +kernel
theorem dX5_goMinute_4 : decode cX5_goMinute 4 = .ok (.iadd, 1) := by decide +kernel
theorem dX5_goMinute_5 : decode cX5_goMinute 5 = .ok (.aload_n 1, 1) := by decide +kernel
theorem dX5_goMinute_6 : decode cX5_goMinute 6 = .ok (.iconst 5, 1) := by decide +kernel
theorem dX5_goMinute_7 : decode cX5_goMinute 7 = .ok (.iaload, 1) := by decide +kernel
theorem dX5_goMinute_8 : decode cX5_goMinute 8 = .ok (.if_icmp .ge 69, 3) := by decide +kernel
theorem dX5_goMinute_11 : decode cX5_goMinute 11 = .ok (.aload_n 0, 1) := by decide +kernel
theorem dX5_goMinute_12 : decode cX5_goMinute 12 = .ok (.getfield 23, 3) := by decide +kernel
theorem dX5_goMinute_15 : decode cX5_goMinute 15 = .ok (.aload_n 1, 1) := by decide +kernel
theorem dX5_goMinute_16 : decode cX5_goMinute 16 = .ok (.iload_n 3, 1) := by decide +kernel
theorem dX5_goMinute_17 : decode cX5_goMinute 17 = .ok (.iaload, 1) := by decide +kernel
theorem dX5_goMinute_18 : decode cX5_goMinute 18 = .ok (.iaload, 1) := by decide +kernel
theorem dX5_goMinute_19 : decode cX5_goMinute 19 = .ok (.iconst 1, 1) := by decide +kernel
theorem dX5_goMinute_20 : decode cX5_goMinute 20 = .ok (.if_icmp .eq 21, 3) := by decide +kernel
theorem dX5_goMinute_23 : decode cX5_goMinute 23 = .ok (.aload_n 0, 1) := by decide +kernel
theorem dX5_goMinute_24 : decode cX5_goMinute 24 = .ok (.aload_n 1, 1) := by decide +kernel
theorem dX5_goMinute_25 : decode cX5_goMinute 25 = .ok (.aload_n 1, 1) := by decide +kernel
theorem dX5_goMinute_26 : decode cX5_goMinute 26 = .ok (.iload_n 3, 1) := by decide +kernel
theorem dX5_goMinute_27 : decode cX5_goMinute 27 = .ok (.iconst 1, 1) := by decide +kernel
theorem dX5_goMinute_28 : decode cX5_goMinute 28 = .ok (.iadd, 1) := by decide +kernel
theorem dX5_goMinute_29 : decode cX5_goMinute 29 = .ok (.iaload, 1) := by decide +kernel
theorem dX5_goMinute_30 : decode cX5_goMinute 30 = .ok (.iload_n 2, 1) := by decide +kernel
theorem dX5_goMinute_31 : decode cX5_goMinute 31 = .ok (.invokevirtual 117, 3) := by decide +kernel
theorem dX5_goMinute_34 : decode cX5_goMinute 34 = .ok (.ifCond .eq 7, 3) := by decide +kernel
theorem dX5_goMinute_37 : decode cX5_goMinute 37 = .ok (.iconst 1, 1) := by decide +kernel
theorem dX5_goMinute_38 : decode cX5_goMinute 38 = .ok (.goto 4, 3) := by decide +kernel
theorem dX5_goMinute_41 : decode cX5_goMinute 41 = .ok (.iconst 0, 1) := by decide +kernel
theorem dX5_goMinute_42 : decode cX5_goMinute 42 = .ok (.istore 4, 2) := by decide +kernel
theorem dX5_goMinute_44 : decode cX5_goMinute 44 = .ok (.aload_n 1, 1) := by decide +kernel
theorem dX5_goMinute_45 : decode cX5_goMinute 45 = .ok (.bipush 6, 2) := by decide +kernel
theorem dX5_goMinute_47 : decode cX5_goMinute 47 = .ok (.aload_n 1, 1) := by decide +kernel
theorem dX5_goMinute_48 : decode cX5_goMinute 48 = .ok (.iload_n 3, 1) := by decide +kernel
theorem dX5_goMinute_49 : decode cX5_goMinute 49 = .ok (.iaload, 1) := by decide +kernel
theorem dX5_goMinute_50 : decode cX5_goMinute 50 = .ok (.iadd, 1) := by decide +kernel
theorem dX5_goMinute_51 : decode cX5_goMinute 51 = .ok (.iload 4, 2) := by decide +kernel
theorem dX5_goMinute_53 : decode cX5_goMinute 53 = .ok (.ifCond .eq 7, 3) := by decide +kernel
theorem dX5_goMinute_56 : decode cX5_goMinute 56 = .ok (.iconst 0, 1) := by decide +kernel
theorem dX5_goMinute_57 : decode cX5_goMinute 57 = .ok (.goto 13, 3) := by decide +kernel
theorem dX5_goMinute_60 : decode cX5_goMinute 60 = .ok (.aload_n 1, 1) := by decide +kernel
theorem dX5_goMinute_61 : decode cX5_goMinute 61 = .ok (.bipush 6, 2) := by decide +kernel
theorem dX5_goMinute_63 : decode cX5_goMinute 63 = .ok (.aload_n 1, 1) := by decide +kernel
theorem dX5_goMinute_64 : decode cX5_goMinute 64 = .ok (.iload_n 3, 1) := by decide +kernel
theorem dX5_goMinute_65 : decode cX5_goMinute 65 = .ok (.iaload, 1) := by decide +kernel
theorem dX5_goMinute_66 : decode cX5_goMinute 66 = .ok (.iadd, 1) := by decide +kernel
theorem dX5_goMinute_67 : decode cX5_goMinute 67 = .ok (.iaload, 1) := by decide +kernel
theorem dX5_goMinute_68 : decode cX5_goMinute 68 = .ok (.iconst 1, 1) := by decide +kernel
theorem dX5_goMinute_69 : decode cX5_goMinute 69 = .ok (.iadd, 1) := by decide +kernel
theorem dX5_goMinute_70 : decode cX5_goMinute 70 = .ok (.iastore, 1) := by decide +kernel
theorem dX5_goMinute_71 : decode cX5_goMinute 71 = .ok (.iinc 3 1, 3) := by decide +kernel
theorem dX5_goMinute_74 : decode cX5_goMinute 74 = .ok (.goto (-72), 3) := by decide +kernel
theorem dX5_goMinute_77 : decode cX5_goMinute 77 = .ok (.aload_n 0, 1) := by decide +kernel
theorem dX5_goMinute_78 : decode cX5_goMinute 78 = .ok (.iconst 0, 1) := by decide +kernel
theorem dX5_goMinute_79 : decode cX5_goMinute 79 = .ok (.putfield 121, 3) := by decide +kernel
theorem dX5_goMinute_82 : decode cX5_goMinute 82 = .ok (.iconst 0, 1) := by decide +kernel
theorem dX5_goMinute_83 : decode cX5_goMinute 83 = .ok (.istore_n 3, 1) := by decide +kernel
theorem dX5_goMinute_84 : decode cX5_goMinute 84 = .ok (.iconst 0, 1) := by decide +kernel
theorem dX5_goMinute_85 : decode cX5_goMinute 85 = .ok (.istore 4, 2) := by decide +kernel
theorem dX5_goMinute_87 : decode cX5_goMinute 87 = .ok (.iload 4, 2) := by decide +kernel
theorem dX5_goMinute_89 : decode cX5_goMinute 89 = .ok (.iconst 1, 1) := by decide +kernel
theorem dX5_goMinute_90 : decode cX5_goMinute 90 = .ok (.iadd, 1) := by decide +kernel
theorem dX5_goMinute_91 : decode cX5_goMinute 91 = .ok (.aload_n 1, 1) := by decide +kernel
theorem dX5_goMinute_92 : decode cX5_goMinute 92 = .ok (.iconst 5, 1) := by decide +kernel
theorem dX5_goMinute_93 : decode cX5_goMinute 93 = .ok (.iaload, 1) := by decide +kernel
theorem dX5_goMinute_94 : decode cX5_goMinute 94 = .ok (.if_icmp .ge 112, 3) := by decide +kernel
theorem dX5_goMinute_97 : decode cX5_goMinute 97 = .ok (.aload_n 1, 1) := by decide +kernel
theorem dX5_goMinute_98 : decode cX5_goMinute 98 = .ok (.iload 4, 2) := by decide +kernel
theorem dX5_goMinute_100 : decode cX5_goMinute 100 = .ok (.iaload, 1) := by decide +kernel
theorem dX5_goMinute_101 : decode cX5_goMinute 101 = .ok (.istore 5, 2) := by decide +kernel
theorem dX5_goMinute_103 : decode cX5_goMinute 103 = .ok (.aload_n 0, 1) := by decide +kernel
theorem dX5_goMinute_104 : decode cX5_goMinute 104 = .ok (.getfield 23, 3) := by decide +kernel
theorem dX5_goMinute_107 : decode cX5_goMinute 107 = .ok (.iload 5, 2) := by decide +kernel
theorem dX5_goMinute_109 : decode cX5_goMinute 109 = .ok (.iaload, 1) := by decide +kernel
theorem dX5_goMinute_110 : decode cX5_goMinute 110 = .ok (.iconst 1, 1) := by decide +kernel
theorem dX5_goMinute_111 : decode cX5_goMinute 111 = .ok (.if_icmp .eq 89, 3) := by decide +kernel
theorem dX5_goMinute_114 : decode cX5_goMinute 114 = .ok (.aload_n 1, 1) := by decide +kernel
theorem dX5_goMinute_115 : decode cX5_goMinute 115 = .ok (.bipush 6, 2) := by decide +kernel
theorem dX5_goMinute_117 : decode cX5_goMinute 117 = .ok (.iload 5, 2) := by decide +kernel
theorem dX5_goMinute_119 : decode cX5_goMinute 119 = .ok (.iadd, 1) := by decide +kernel
theorem dX5_goMinute_120 : decode cX5_goMinute 120 = .ok (.iaload, 1) := by decide +kernel
theorem dX5_goMinute_121 : decode cX5_goMinute 121 = .ok (.aload_n 0, 1) := by decide +kernel
theorem dX5_goMinute_122 : decode cX5_goMinute 122 = .ok (.getfield 20, 3) := by decide +kernel
theorem dX5_goMinute_125 : decode cX5_goMinute 125 = .ok (.iload 5, 2) := by decide +kernel
theorem dX5_goMinute_127 : decode cX5_goMinute 127 = .ok (.iaload, 1) := by decide +kernel
theorem dX5_goMinute_128 : decode cX5_goMinute 128 = .ok (.if_icmp .le 72, 3) := by decide +kernel
theorem dX5_goMinute_131 : decode cX5_goMinute 131 = .ok (.aload_n 0, 1) := by decide +kernel
theorem dX5_goMinute_132 : decode cX5_goMinute 132 = .ok (.dup, 1) := by decide +kernel
theorem dX5_goMinute_133 : decode cX5_goMinute 133 = .ok (.getfield 121, 3) := by decide +kernel
theorem dX5_goMinute_136 : decode cX5_goMinute 136 = .ok (.iconst 1, 1) := by decide +kernel
theorem dX5_goMinute_137 : decode cX5_goMinute 137 = .ok (.iload 5, 2) := by decide +kernel
theorem dX5_goMinute_139 : decode cX5_goMinute 139 = .ok (.ishl, 1) := by decide +kernel
theorem dX5_goMinute_140 : decode cX5_goMinute 140 = .ok (.ior, 1) := by decide +kernel
theorem dX5_goMinute_141 : decode cX5_goMinute 141 = .ok (.putfield 121, 3) := by decide +kernel
theorem dX5_goMinute_144 : decode cX5_goMinute 144 = .ok (.aload_n 1, 1) := by decide +kernel
theorem dX5_goMinute_145 : decode cX5_goMinute 145 = .ok (.bipush 6, 2) := by decide +kernel
theorem dX5_goMinute_147 : decode cX5_goMinute 147 = .ok (.iload 5, 2) := by decide +kernel
theorem dX5_goMinute_149 : decode cX5_goMinute 149 = .ok (.iadd, 1) := by decide +kernel
theorem dX5_goMinute_150 : decode cX5_goMinute 150 = .ok (.iconst 0, 1) := by decide +kernel
theorem dX5_goMinute_151 : decode cX5_goMinute 151 = .ok (.iastore, 1) := by decide +kernel
theorem dX5_goMinute_152 : decode cX5_goMinute 152 = .ok (.iload_n 3, 1) := by decide +kernel
theorem dX5_goMinute_153 : decode cX5_goMinute 153 = .ok (.iconst 1, 1) := by decide +kernel
theorem dX5_goMinute_154 : decode cX5_goMinute 154 = .ok (.aload_n 1, 1) := by decide +kernel
theorem dX5_goMinute_155 : decode cX5_goMinute 155 = .ok (.iload 4, 2) := by decide +kernel
theorem dX5_goMinute_157 : decode cX5_goMinute 157 = .ok (.iconst 1, 1) := by decide +kernel
theorem dX5_goMinute_158 : decode cX5_goMinute 158 = .ok (.iadd, 1) := by decide +kernel
theorem dX5_goMinute_159 : decode cX5_goMinute 159 = .ok (.iaload, 1) := by decide +kernel
theorem dX5_goMinute_160 : decode cX5_goMinute 160 = .ok (.ishl, 1) := by decide +kernel
theorem dX5_goMinute_161 : decode cX5_goMinute 161 = .ok (.ior, 1) := by decide +kernel
theorem dX5_goMinute_162 : decode cX5_goMinute 162 = .ok (.istore_n 3, 1) := by decide +kernel
theorem dX5_goMinute_163 : decode cX5_goMinute 163 = .ok (.aload_n 1, 1) := by decide +kernel
theorem dX5_goMinute_164 : decode cX5_goMinute 164 = .ok (.iconst 5, 1) := by decide +kernel
theorem dX5_goMinute_165 : decode cX5_goMinute 165 = .ok (.dup2, 1) := by decide +kernel
theorem dX5_goMinute_166 : decode cX5_goMinute 166 = .ok (.iaload, 1) := by decide +kernel
theorem dX5_goMinute_167 : decode cX5_goMinute 167 = .ok (.iconst 1, 1) := by decide +kernel
theorem dX5_goMinute_168 : decode cX5_goMinute 168 = .ok (.isub, 1) := by decide +kernel
theorem dX5_goMinute_169 : decode cX5_goMinute 169 = .ok (.iastore, 1) := by decide +kernel
theorem dX5_goMinute_170 : decode cX5_goMinute 170 = .ok (.iload 4, 2) := by decide +kernel
theorem dX5_goMinute_172 : decode cX5_goMinute 172 = .ok (.iconst 1, 1) := by decide +kernel
theorem dX5_goMinute_173 : decode cX5_goMinute 173 = .ok (.iadd, 1) := by decide +kernel
theorem dX5_goMinute_174 : decode cX5_goMinute 174 = .ok (.istore 6, 2) := by decide +kernel
theorem dX5_goMinute_176 : decode cX5_goMinute 176 = .ok (.iload 6, 2) := by decide +kernel
theorem dX5_goMinute_178 : decode cX5_goMinute 178 = .ok (.aload_n 1, 1) := by decide +kernel
theorem dX5_goMinute_179 : decode cX5_goMinute 179 = .ok (.iconst 5, 1) := by decide +kernel
theorem dX5_goMinute_180 : decode cX5_goMinute 180 = .ok (.iaload, 1) := by decide +kernel
theorem dX5_goMinute_181 : decode cX5_goMinute 181 = .ok (.if_icmp .ge 19, 3) := by decide +kernel
theorem dX5_goMinute_184 : decode cX5_goMinute 184 = .ok (.aload_n 1, 1) := by decide +kernel
theorem dX5_goMinute_185 : decode cX5_goMinute 185 = .ok (.iload 6, 2) := by decide +kernel
theorem dX5_goMinute_187 : decode cX5_goMinute 187 = .ok (.aload_n 1, 1) := by decide +kernel
theorem dX5_goMinute_188 : decode cX5_goMinute 188 = .ok (.iload 6, 2) := by decide +kernel
theorem dX5_goMinute_190 : decode cX5_goMinute 190 = .ok (.iconst 1, 1) := by decide +kernel
theorem dX5_goMinute_191 : decode cX5_goMinute 191 = .ok (.iadd, 1) := by decide +kernel
theorem dX5_goMinute_192 : decode cX5_goMinute 192 = .ok (.iaload, 1) := by decide +kernel
theorem dX5_goMinute_193 : decode cX5_goMinute 193 = .ok (.iastore, 1) := by decide +kernel
theorem dX5_goMinute_194 : decode cX5_goMinute 194 = .ok (.iinc 6 1, 3) := by decide +kernel
theorem dX5_goMinute_197 : decode cX5_goMinute 197 = .ok (.goto (-21), 3) := by decide +kernel
theorem dX5_goMinute_200 : decode cX5_goMinute 200 = .ok (.iinc 4 1, 3) := by decide +kernel
theorem dX5_goMinute_203 : decode cX5_goMinute 203 = .ok (.goto (-116), 3) := by decide +kernel
theorem dX5_goMinute_206 : decode cX5_goMinute 206 = .ok (.aload_n 1, 1) := by decide +kernel
theorem dX5_goMinute_207 : decode cX5_goMinute 207 = .ok (.bipush 12, 2) := by decide +kernel
theorem dX5_goMinute_209 : decode cX5_goMinute 209 = .ok (.dup2, 1) := by decide +kernel
theorem dX5_goMinute_210 : decode cX5_goMinute 210 = .ok (.iaload, 1) := by decide +kernel
theorem dX5_goMinute_211 : decode cX5_goMinute 211 = .ok (.iload_n 3, 1) := by decide +kernel
theorem dX5_goMinute_212 : decode cX5_goMinute 212 = .ok (.ior, 1) := by decide +kernel
theorem dX5_goMinute_213 : decode cX5_goMinute 213 = .ok (.iastore, 1) := by decide +kernel
theorem dX5_goMinute_214 : decode cX5_goMinute 214 = .ok (.aload_n 1, 1) := by decide +kernel
theorem dX5_goMinute_215 : decode cX5_goMinute 215 = .ok (.bipush 11, 2) := by decide +kernel
theorem dX5_goMinute_217 : decode cX5_goMinute 217 = .ok (.dup2, 1) := by decide +kernel
theorem dX5_goMinute_218 : decode cX5_goMinute 218 = .ok (.iaload, 1) := by decide +kernel
theorem dX5_goMinute_219 : decode cX5_goMinute 219 = .ok (.iconst 1, 1) := by decide +kernel
theorem dX5_goMinute_220 : decode cX5_goMinute 220 = .ok (.iadd, 1) := by decide +kernel
theorem dX5_goMinute_221 : decode cX5_goMinute 221 = .ok (.iastore, 1) := by decide +kernel
theorem dX5_goMinute_222 : decode cX5_goMinute 222 = .ok (.iload_n 3, 1) := by decide +kernel
theorem dX5_goMinute_223 : decode cX5_goMinute 223 = .ok (.ireturn, 1) := by decide +kernel
theorem dX5_note_0 : decode cX5_note 0 = .ok (.aload_n 0, 1) := by decide +kernel
theorem dX5_note_1 : decode cX5_note 1 = .ok (.getfield 92, 3) := by decide +kernel
theorem dX5_note_4 : decode cX5_note 4 = .ok (.bipush 14, 2) := by decide +kernel
theorem dX5_note_6 : decode cX5_note 6 = .ok (.if_icmp .ne 43, 3) := by decide +kernel
theorem dX5_note_9 : decode cX5_note 9 = .ok (.iconst 0, 1) := by decide +kernel
theorem dX5_note_10 : decode cX5_note 10 = .ok (.istore_n 1, 1) := by decide +kernel
theorem dX5_note_11 : decode cX5_note 11 = .ok (.iload_n 1, 1) := by decide +kernel
theorem dX5_note_12 : decode cX5_note 12 = .ok (.sipush 169, 3) := by decide +kernel
theorem dX5_note_15 : decode cX5_note 15 = .ok (.if_icmp .ge 24, 3) := by decide +kernel
theorem dX5_note_18 : decode cX5_note 18 = .ok (.aload_n 0, 1) := by decide +kernel
theorem dX5_note_19 : decode cX5_note 19 = .ok (.getfield 38, 3) := by decide +kernel
theorem dX5_note_22 : decode cX5_note 22 = .ok (.iload_n 1, 1) := by decide +kernel
theorem dX5_note_23 : decode cX5_note 23 = .ok (.aload_n 0, 1) := by decide +kernel
theorem dX5_note_24 : decode cX5_note 24 = .ok (.getfield 38, 3) := by decide +kernel
theorem dX5_note_27 : decode cX5_note 27 = .ok (.iload_n 1, 1) := by decide +kernel
theorem dX5_note_28 : decode cX5_note 28 = .ok (.bipush 13, 2) := by decide +kernel
theorem dX5_note_30 : decode cX5_note 30 = .ok (.iadd, 1) := by decide +kernel
theorem dX5_note_31 : decode cX5_note 31 = .ok (.iaload, 1) := by decide +kernel
theorem dX5_note_32 : decode cX5_note 32 = .ok (.iastore, 1) := by decide +kernel
theorem dX5_note_33 : decode cX5_note 33 = .ok (.iinc 1 1, 3) := by decide +kernel
theorem dX5_note_36 : decode cX5_note 36 = .ok (.goto (-25), 3) := by decide +kernel
theorem dX5_note_39 : decode cX5_note 39 = .ok (.aload_n 0, 1) := by decide +kernel
theorem dX5_note_40 : decode cX5_note 40 = .ok (.dup, 1) := by decide +kernel
theorem dX5_note_41 : decode cX5_note 41 = .ok (.getfield 92, 3) := by decide +kernel
theorem dX5_note_44 : decode cX5_note 44 = .ok (.iconst 1, 1) := by decide +kernel
theorem dX5_note_45 : decode cX5_note 45 = .ok (.isub, 1) := by decide +kernel
theorem dX5_note_46 : decode cX5_note 46 = .ok (.putfield 92, 3) := by decide +kernel
theorem dX5_note_49 : decode cX5_note 49 = .ok (.iconst 0, 1) := by decide +kernel
theorem dX5_note_50 : decode cX5_note 50 = .ok (.istore_n 1, 1) := by decide +kernel
theorem dX5_note_51 : decode cX5_note 51 = .ok (.iload_n 1, 1) := by decide +kernel
theorem dX5_note_52 : decode cX5_note 52 = .ok (.bipush 13, 2) := by decide +kernel
theorem dX5_note_54 : decode cX5_note 54 = .ok (.if_icmp .ge 29, 3) := by decide +kernel
theorem dX5_note_57 : decode cX5_note 57 = .ok (.aload_n 0, 1) := by decide +kernel
theorem dX5_note_58 : decode cX5_note 58 = .ok (.getfield 38, 3) := by decide +kernel
theorem dX5_note_61 : decode cX5_note 61 = .ok (.bipush 13, 2) := by decide +kernel
theorem dX5_note_63 : decode cX5_note 63 = .ok (.aload_n 0, 1) := by decide +kernel
theorem dX5_note_64 : decode cX5_note 64 = .ok (.getfield 92, 3) := by decide +kernel
theorem dX5_note_67 : decode cX5_note 67 = .ok (.imul, 1) := by decide +kernel
theorem dX5_note_68 : decode cX5_note 68 = .ok (.iload_n 1, 1) := by decide +kernel
theorem dX5_note_69 : decode cX5_note 69 = .ok (.iadd, 1) := by decide +kernel
theorem dX5_note_70 : decode cX5_note 70 = .ok (.aload_n 0, 1) := by decide +kernel
theorem dX5_note_71 : decode cX5_note 71 = .ok (.getfield 32, 3) := by decide +kernel
theorem dX5_note_74 : decode cX5_note 74 = .ok (.iload_n 1, 1) := by decide +kernel
theorem dX5_note_75 : decode cX5_note 75 = .ok (.iaload, 1) := by decide +kernel
theorem dX5_note_76 : decode cX5_note 76 = .ok (.iastore, 1) := by decide +kernel
theorem dX5_note_77 : decode cX5_note 77 = .ok (.iinc 1 1, 3) := by decide +kernel
theorem dX5_note_80 : decode cX5_note 80 = .ok (.goto (-29), 3) := by decide +kernel
theorem dX5_note_83 : decode cX5_note 83 = .ok (.aload_n 0, 1) := by decide +kernel
theorem dX5_note_84 : decode cX5_note 84 = .ok (.dup, 1) := by decide +kernel
theorem dX5_note_85 : decode cX5_note 85 = .ok (.getfield 92, 3) := by decide +kernel
theorem dX5_note_88 : decode cX5_note 88 = .ok (.iconst 1, 1) := by decide +kernel
theorem dX5_note_89 : decode cX5_note 89 = .ok (.iadd, 1) := by decide +kernel
theorem dX5_note_90 : decode cX5_note 90 = .ok (.putfield 92, 3) := by decide +kernel
theorem dX5_note_93 : decode cX5_note 93 = .ok (.return_, 1) := by decide +kernel
set_option maxRecDepth 20000 in
theorem ggX5_minute_X5_in : GoodIn wsX5_minute wsX5_in := goodIn_r _ [8] (by decide +kernel) (by decide +kernel)
set_option maxRecDepth 20000 in
theorem gX5_minute_X5_in : GoodIn wsX5_minute (va_wsS RX5 63 yX5_in wsX5_in) := goodIn_app (goodIn_of _ (by decide +kernel)) ggX5_minute_X5_in
set_option maxRecDepth 20000 in
theorem ggX5_minute_X5_note : GoodIn wsX5_minute wsX5_note := goodIn_r _ [12, 13, 14, 3, 30, 31, 32, 33, 34, 35, 36, 37, 38, 39, 40, 41, 42, 43, 44, 45, 46, 47, 48, 49, 50, 51, 52, 53, 54, 55, 56, 57] (by decide +kernel) (by decide +kernel)
set_option maxRecDepth 20000 in
theorem gX5_minute_X5_note : GoodIn wsX5_minute (wsV RX5 124 RX5 yX5_note wsX5_note) := goodIn_app (goodIn_of _ (by decide +kernel)) ggX5_minute_X5_note
set_option maxRecDepth 20000 in
theorem ggX5_minute_X5_goMinute : GoodIn wsX5_minute wsX5_goMinute := goodIn_r _ [18, 19, 20, 21, 22, 23, 24, 7, 25, 26, 27, 28, 29, 30, 31, 32, 33, 34, 35, 36, 37, 38, 39, 40, 41, 42, 43, 44, 45, 46, 47, 48, 49, 50, 51, 52, 53, 54, 55, 56, 57] (by decide +kernel) (by decide +kernel)
set_option maxRecDepth 20000 in
theorem gX5_minute_X5_goMinute : GoodIn wsX5_minute (wsV RX5 127 RX5 yX5_goMinute wsX5_goMinute) := goodIn_app (goodIn_of _ (by decide +kernel)) ggX5_minute_X5_goMinute
theorem dX5_minute_0 : decode cX5_minute 0 = .ok (.aload_n 0, 1) := by decide +kernel
theorem dX5_minute_1 : decode cX5_minute 1 = .ok (.iconst 0, 1) := by decide +kernel
theorem dX5_minute_2 : decode cX5_minute 2 = .ok (.putfield 57, 3) := by decide +kernel
theorem dX5_minute_5 : decode cX5_minute 5 = .ok (.iload_n 1, 1) := by decide +kernel
theorem dX5_minute_6 : decode cX5_minute 6 = .ok (.i2l, 1) := by decide +kernel
theorem dX5_minute_7 : decode cX5_minute 7 = .ok (.lconst 0, 1) := by decide +kernel
theorem dX5_minute_8 : decode cX5_minute 8 = .ok (.iconst 1, 1) := by decide +kernel
theorem dX5_minute_9 : decode cX5_minute 9 = .ok (.aload_n 0, 1) := by decide +kernel
theorem dX5_minute_10 : decode cX5_minute 10 = .ok (.getfield 60, 3) := by decide +kernel
theorem dX5_minute_13 : decode cX5_minute 13 = .ok (.ishl, 1) := by decide +kernel
theorem dX5_minute_14 : decode cX5_minute 14 = .ok (.iconst 1, 1) := by decide +kernel
theorem dX5_minute_15 : decode cX5_minute 15 = .ok (.isub, 1) := by decide +kernel
theorem dX5_minute_16 : decode cX5_minute 16 = .ok (.i2l, 1) := by decide +kernel
theorem dX5_minute_17 : decode cX5_minute 17 = .ok (.invokestatic 63, 3) := by decide +kernel
theorem dX5_minute_20 : decode cX5_minute 20 = .ok (.ifCond .ne 6, 3) := by decide +kernel
theorem dX5_minute_23 : decode cX5_minute 23 = .ok (.bipush (-2), 2) := by decide +kernel
theorem dX5_minute_25 : decode cX5_minute 25 = .ok (.ireturn, 1) := by decide +kernel
theorem dX5_minute_26 : decode cX5_minute 26 = .ok (.aload_n 0, 1) := by decide +kernel
theorem dX5_minute_27 : decode cX5_minute 27 = .ok (.getfield 32, 3) := by decide +kernel
theorem dX5_minute_30 : decode cX5_minute 30 = .ok (.bipush 11, 2) := by decide +kernel
theorem dX5_minute_32 : decode cX5_minute 32 = .ok (.iaload, 1) := by decide +kernel
theorem dX5_minute_33 : decode cX5_minute 33 = .ok (.aload_n 0, 1) := by decide +kernel
theorem dX5_minute_34 : decode cX5_minute 34 = .ok (.getfield 13, 3) := by decide +kernel
theorem dX5_minute_37 : decode cX5_minute 37 = .ok (.if_icmp .ne 6, 3) := by decide +kernel
theorem dX5_minute_40 : decode cX5_minute 40 = .ok (.bipush (-3), 2) := by decide +kernel
theorem dX5_minute_42 : decode cX5_minute 42 = .ok (.ireturn, 1) := by decide +kernel
theorem dX5_minute_43 : decode cX5_minute 43 = .ok (.aload_n 0, 1) := by decide +kernel
theorem dX5_minute_44 : decode cX5_minute 44 = .ok (.invokevirtual 124, 3) := by decide +kernel
theorem dX5_minute_47 : decode cX5_minute 47 = .ok (.aload_n 0, 1) := by decide +kernel
theorem dX5_minute_48 : decode cX5_minute 48 = .ok (.aload_n 0, 1) := by decide +kernel
theorem dX5_minute_49 : decode cX5_minute 49 = .ok (.getfield 32, 3) := by decide +kernel
theorem dX5_minute_52 : decode cX5_minute 52 = .ok (.iload_n 1, 1) := by decide +kernel
theorem dX5_minute_53 : decode cX5_minute 53 = .ok (.invokevirtual 127, 3) := by decide +kernel
theorem dX5_minute_56 : decode cX5_minute 56 = .ok (.ireturn, 1) := by decide +kernel
set_option maxRecDepth 20000 in
theorem ggX5_change_X5_in : GoodIn wsX5_change wsX5_in := goodIn_r _ [8] (by decide +kernel) (by decide +kernel)
set_option maxRecDepth 20000 in
theorem gX5_change_X5_in : GoodIn wsX5_change (va_wsS RX5 63 yX5_in wsX5_in) := goodIn_app (goodIn_of _ (by decide +kernel)) ggX5_change_X5_in
set_option maxRecDepth 20000 in
theorem ggX5_change_X5_note : GoodIn wsX5_change wsX5_note := goodIn_r _ [12, 13, 14, 3, 18, 19, 20, 21, 22, 23, 24, 25, 26, 27, 28, 29, 30, 31, 32, 33, 34, 35, 36, 37, 38, 39, 40, 41, 42, 43, 44, 45] (by decide +kernel) (by decide +kernel)
set_option maxRecDepth 20000 in
theorem gX5_change_X5_note : GoodIn wsX5_change (wsV RX5 124 RX5 yX5_note wsX5_note) := goodIn_app (goodIn_of _ (by decide +kernel)) ggX5_change_X5_note
set_option maxRecDepth 20000 in
theorem ggX5_change_X5_figuresOf : GoodIn wsX5_change wsX5_figuresOf := goodIn_r _ [17] (by decide +kernel) (by decide +kernel)
set_option maxRecDepth 20000 in
theorem gX5_change_X5_figuresOf : GoodIn wsX5_change (va_wsS RX5 99 yX5_figuresOf wsX5_figuresOf) := goodIn_app (goodIn_of _ (by decide +kernel)) ggX5_change_X5_figuresOf
theorem dX5_change_0 : decode cX5_change 0 = .ok (.aload_n 0, 1) := by decide +kernel
theorem dX5_change_1 : decode cX5_change 1 = .ok (.iconst 0, 1) := by decide +kernel
theorem dX5_change_2 : decode cX5_change 2 = .ok (.putfield 57, 3) := by decide +kernel
theorem dX5_change_5 : decode cX5_change 5 = .ok (.iload_n 1, 1) := by decide +kernel
theorem dX5_change_6 : decode cX5_change 6 = .ok (.i2l, 1) := by decide +kernel
theorem dX5_change_7 : decode cX5_change 7 = .ok (.lconst 0, 1) := by decide +kernel
theorem dX5_change_8 : decode cX5_change 8 = .ok (.ldc2_w 130, 3) := by decide +kernel
theorem dX5_change_11 : decode cX5_change 11 = .ok (.invokestatic 63, 3) := by decide +kernel
theorem dX5_change_14 : decode cX5_change 14 = .ok (.ifCond .ne 6, 3) := by decide +kernel
theorem dX5_change_17 : decode cX5_change 17 = .ok (.bipush (-2), 2) := by decide +kernel
theorem dX5_change_19 : decode cX5_change 19 = .ok (.ireturn, 1) := by decide +kernel
theorem dX5_change_20 : decode cX5_change 20 = .ok (.iload_n 1, 1) := by decide +kernel
theorem dX5_change_21 : decode cX5_change 21 = .ok (.iconst 1, 1) := by decide +kernel
theorem dX5_change_22 : decode cX5_change 22 = .ok (.iadd, 1) := by decide +kernel
theorem dX5_change_23 : decode cX5_change 23 = .ok (.aload_n 0, 1) := by decide +kernel
theorem dX5_change_24 : decode cX5_change 24 = .ok (.getfield 32, 3) := by decide +kernel
theorem dX5_change_27 : decode cX5_change 27 = .ok (.iconst 5, 1) := by decide +kernel
theorem dX5_change_28 : decode cX5_change 28 = .ok (.iaload, 1) := by decide +kernel
theorem dX5_change_29 : decode cX5_change 29 = .ok (.if_icmp .ge 17, 3) := by decide +kernel
theorem dX5_change_32 : decode cX5_change 32 = .ok (.aload_n 0, 1) := by decide +kernel
theorem dX5_change_33 : decode cX5_change 33 = .ok (.getfield 32, 3) := by decide +kernel
theorem dX5_change_36 : decode cX5_change 36 = .ok (.bipush 11, 2) := by decide +kernel
theorem dX5_change_38 : decode cX5_change 38 = .ok (.iaload, 1) := by decide +kernel
theorem dX5_change_39 : decode cX5_change 39 = .ok (.aload_n 0, 1) := by decide +kernel
theorem dX5_change_40 : decode cX5_change 40 = .ok (.getfield 13, 3) := by decide +kernel
theorem dX5_change_43 : decode cX5_change 43 = .ok (.if_icmp .ne 6, 3) := by decide +kernel
theorem dX5_change_46 : decode cX5_change 46 = .ok (.bipush (-3), 2) := by decide +kernel
theorem dX5_change_48 : decode cX5_change 48 = .ok (.ireturn, 1) := by decide +kernel
theorem dX5_change_49 : decode cX5_change 49 = .ok (.aload_n 0, 1) := by decide +kernel
theorem dX5_change_50 : decode cX5_change 50 = .ok (.invokevirtual 124, 3) := by decide +kernel
theorem dX5_change_53 : decode cX5_change 53 = .ok (.aload_n 0, 1) := by decide +kernel
theorem dX5_change_54 : decode cX5_change 54 = .ok (.getfield 32, 3) := by decide +kernel
theorem dX5_change_57 : decode cX5_change 57 = .ok (.iload_n 1, 1) := by decide +kernel
theorem dX5_change_58 : decode cX5_change 58 = .ok (.iaload, 1) := by decide +kernel
theorem dX5_change_59 : decode cX5_change 59 = .ok (.istore_n 2, 1) := by decide +kernel
theorem dX5_change_60 : decode cX5_change 60 = .ok (.aload_n 0, 1) := by decide +kernel
theorem dX5_change_61 : decode cX5_change 61 = .ok (.getfield 32, 3) := by decide +kernel
theorem dX5_change_64 : decode cX5_change 64 = .ok (.iload_n 1, 1) := by decide +kernel
theorem dX5_change_65 : decode cX5_change 65 = .ok (.aload_n 0, 1) := by decide +kernel
theorem dX5_change_66 : decode cX5_change 66 = .ok (.getfield 32, 3) := by decide +kernel
theorem dX5_change_69 : decode cX5_change 69 = .ok (.iload_n 1, 1) := by decide +kernel
theorem dX5_change_70 : decode cX5_change 70 = .ok (.iconst 1, 1) := by decide +kernel
theorem dX5_change_71 : decode cX5_change 71 = .ok (.iadd, 1) := by decide +kernel
theorem dX5_change_72 : decode cX5_change 72 = .ok (.iaload, 1) := by decide +kernel
theorem dX5_change_73 : decode cX5_change 73 = .ok (.iastore, 1) := by decide +kernel
theorem dX5_change_74 : decode cX5_change 74 = .ok (.aload_n 0, 1) := by decide +kernel
theorem dX5_change_75 : decode cX5_change 75 = .ok (.getfield 32, 3) := by decide +kernel
theorem dX5_change_78 : decode cX5_change 78 = .ok (.iload_n 1, 1) := by decide +kernel
theorem dX5_change_79 : decode cX5_change 79 = .ok (.iconst 1, 1) := by decide +kernel
theorem dX5_change_80 : decode cX5_change 80 = .ok (.iadd, 1) := by decide +kernel
theorem dX5_change_81 : decode cX5_change 81 = .ok (.iload_n 2, 1) := by decide +kernel
theorem dX5_change_82 : decode cX5_change 82 = .ok (.iastore, 1) := by decide +kernel
theorem dX5_change_83 : decode cX5_change 83 = .ok (.aload_n 0, 1) := by decide +kernel
theorem dX5_change_84 : decode cX5_change 84 = .ok (.getfield 32, 3) := by decide +kernel
theorem dX5_change_87 : decode cX5_change 87 = .ok (.bipush 6, 2) := by decide +kernel
theorem dX5_change_89 : decode cX5_change 89 = .ok (.aload_n 0, 1) := by decide +kernel
theorem dX5_change_90 : decode cX5_change 90 = .ok (.getfield 32, 3) := by decide +kernel
theorem dX5_change_93 : decode cX5_change 93 = .ok (.iload_n 1, 1) := by decide +kernel
theorem dX5_change_94 : decode cX5_change 94 = .ok (.iaload, 1) := by decide +kernel
theorem dX5_change_95 : decode cX5_change 95 = .ok (.iadd, 1) := by decide +kernel
theorem dX5_change_96 : decode cX5_change 96 = .ok (.iconst 0, 1) := by decide +kernel
theorem dX5_change_97 : decode cX5_change 97 = .ok (.iastore, 1) := by decide +kernel
theorem dX5_change_98 : decode cX5_change 98 = .ok (.aload_n 0, 1) := by decide +kernel
theorem dX5_change_99 : decode cX5_change 99 = .ok (.getfield 32, 3) := by decide +kernel
theorem dX5_change_102 : decode cX5_change 102 = .ok (.bipush 6, 2) := by decide +kernel
theorem dX5_change_104 : decode cX5_change 104 = .ok (.iload_n 2, 1) := by decide +kernel
theorem dX5_change_105 : decode cX5_change 105 = .ok (.iadd, 1) := by decide +kernel
theorem dX5_change_106 : decode cX5_change 106 = .ok (.iconst 0, 1) := by decide +kernel
theorem dX5_change_107 : decode cX5_change 107 = .ok (.iastore, 1) := by decide +kernel
theorem dX5_change_108 : decode cX5_change 108 = .ok (.aload_n 0, 1) := by decide +kernel
theorem dX5_change_109 : decode cX5_change 109 = .ok (.getfield 32, 3) := by decide +kernel
theorem dX5_change_112 : decode cX5_change 112 = .ok (.invokestatic 99, 3) := by decide +kernel
theorem dX5_change_115 : decode cX5_change 115 = .ok (.ireturn, 1) := by decide +kernel
set_option maxRecDepth 20000 in
theorem ggX5_rest_X5_note : GoodIn wsX5_rest wsX5_note := goodIn_r _ [8, 9, 10, 2, 11, 12, 13, 14, 15, 16, 17, 18, 19, 20, 21, 22, 23, 24, 25, 26, 27, 28, 29, 30, 31, 32, 33, 34, 35, 36, 37, 38] (by decide +kernel) (by decide +kernel)
set_option maxRecDepth 20000 in
theorem gX5_rest_X5_note : GoodIn wsX5_rest (wsV RX5 124 RX5 yX5_note wsX5_note) := goodIn_app (goodIn_of _ (by decide +kernel)) ggX5_rest_X5_note
theorem dX5_rest_0 : decode cX5_rest 0 = .ok (.aload_n 0, 1) := by decide +kernel
theorem dX5_rest_1 : decode cX5_rest 1 = .ok (.iconst 0, 1) := by decide +kernel
theorem dX5_rest_2 : decode cX5_rest 2 = .ok (.putfield 57, 3) := by decide +kernel
theorem dX5_rest_5 : decode cX5_rest 5 = .ok (.aload_n 0, 1) := by decide +kernel
theorem dX5_rest_6 : decode cX5_rest 6 = .ok (.getfield 32, 3) := by decide +kernel
theorem dX5_rest_9 : decode cX5_rest 9 = .ok (.bipush 11, 2) := by decide +kernel
theorem dX5_rest_11 : decode cX5_rest 11 = .ok (.iaload, 1) := by decide +kernel
theorem dX5_rest_12 : decode cX5_rest 12 = .ok (.aload_n 0, 1) := by decide +kernel
theorem dX5_rest_13 : decode cX5_rest 13 = .ok (.getfield 13, 3) := by decide +kernel
theorem dX5_rest_16 : decode cX5_rest 16 = .ok (.if_icmp .ne 6, 3) := by decide +kernel
theorem dX5_rest_19 : decode cX5_rest 19 = .ok (.bipush (-3), 2) := by decide +kernel
theorem dX5_rest_21 : decode cX5_rest 21 = .ok (.ireturn, 1) := by decide +kernel
theorem dX5_rest_22 : decode cX5_rest 22 = .ok (.aload_n 0, 1) := by decide +kernel
theorem dX5_rest_23 : decode cX5_rest 23 = .ok (.invokevirtual 124, 3) := by decide +kernel
theorem dX5_rest_26 : decode cX5_rest 26 = .ok (.iconst 0, 1) := by decide +kernel
theorem dX5_rest_27 : decode cX5_rest 27 = .ok (.istore_n 1, 1) := by decide +kernel
theorem dX5_rest_28 : decode cX5_rest 28 = .ok (.iconst 0, 1) := by decide +kernel
theorem dX5_rest_29 : decode cX5_rest 29 = .ok (.istore_n 2, 1) := by decide +kernel
theorem dX5_rest_30 : decode cX5_rest 30 = .ok (.iload_n 2, 1) := by decide +kernel
theorem dX5_rest_31 : decode cX5_rest 31 = .ok (.aload_n 0, 1) := by decide +kernel
theorem dX5_rest_32 : decode cX5_rest 32 = .ok (.getfield 32, 3) := by decide +kernel
theorem dX5_rest_35 : decode cX5_rest 35 = .ok (.iconst 5, 1) := by decide +kernel
theorem dX5_rest_36 : decode cX5_rest 36 = .ok (.iaload, 1) := by decide +kernel
theorem dX5_rest_37 : decode cX5_rest 37 = .ok (.if_icmp .ge 49, 3) := by decide +kernel
theorem dX5_rest_40 : decode cX5_rest 40 = .ok (.iload_n 1, 1) := by decide +kernel
theorem dX5_rest_41 : decode cX5_rest 41 = .ok (.aload_n 0, 1) := by decide +kernel
theorem dX5_rest_42 : decode cX5_rest 42 = .ok (.getfield 32, 3) := by decide +kernel
theorem dX5_rest_45 : decode cX5_rest 45 = .ok (.bipush 6, 2) := by decide +kernel
theorem dX5_rest_47 : decode cX5_rest 47 = .ok (.aload_n 0, 1) := by decide +kernel
theorem dX5_rest_48 : decode cX5_rest 48 = .ok (.getfield 32, 3) := by decide +kernel
theorem dX5_rest_51 : decode cX5_rest 51 = .ok (.iload_n 2, 1) := by decide +kernel
theorem dX5_rest_52 : decode cX5_rest 52 = .ok (.iaload, 1) := by decide +kernel
theorem dX5_rest_53 : decode cX5_rest 53 = .ok (.iadd, 1) := by decide +kernel
theorem dX5_rest_54 : decode cX5_rest 54 = .ok (.iaload, 1) := by decide +kernel
theorem dX5_rest_55 : decode cX5_rest 55 = .ok (.ifCond .le 7, 3) := by decide +kernel
theorem dX5_rest_58 : decode cX5_rest 58 = .ok (.iconst 1, 1) := by decide +kernel
theorem dX5_rest_59 : decode cX5_rest 59 = .ok (.goto 4, 3) := by decide +kernel
theorem dX5_rest_62 : decode cX5_rest 62 = .ok (.iconst 0, 1) := by decide +kernel
theorem dX5_rest_63 : decode cX5_rest 63 = .ok (.iadd, 1) := by decide +kernel
theorem dX5_rest_64 : decode cX5_rest 64 = .ok (.istore_n 1, 1) := by decide +kernel
theorem dX5_rest_65 : decode cX5_rest 65 = .ok (.aload_n 0, 1) := by decide +kernel
theorem dX5_rest_66 : decode cX5_rest 66 = .ok (.getfield 32, 3) := by decide +kernel
theorem dX5_rest_69 : decode cX5_rest 69 = .ok (.bipush 6, 2) := by decide +kernel
theorem dX5_rest_71 : decode cX5_rest 71 = .ok (.aload_n 0, 1) := by decide +kernel
theorem dX5_rest_72 : decode cX5_rest 72 = .ok (.getfield 32, 3) := by decide +kernel
theorem dX5_rest_75 : decode cX5_rest 75 = .ok (.iload_n 2, 1) := by decide +kernel
theorem dX5_rest_76 : decode cX5_rest 76 = .ok (.iaload, 1) := by decide +kernel
theorem dX5_rest_77 : decode cX5_rest 77 = .ok (.iadd, 1) := by decide +kernel
theorem dX5_rest_78 : decode cX5_rest 78 = .ok (.iconst 0, 1) := by decide +kernel
theorem dX5_rest_79 : decode cX5_rest 79 = .ok (.iastore, 1) := by decide +kernel
theorem dX5_rest_80 : decode cX5_rest 80 = .ok (.iinc 2 1, 3) := by decide +kernel
theorem dX5_rest_83 : decode cX5_rest 83 = .ok (.goto (-53), 3) := by decide +kernel
theorem dX5_rest_86 : decode cX5_rest 86 = .ok (.iload_n 1, 1) := by decide +kernel
theorem dX5_rest_87 : decode cX5_rest 87 = .ok (.ireturn, 1) := by decide +kernel
theorem dX5_undo_0 : decode cX5_undo 0 = .ok (.aload_n 0, 1) := by decide +kernel
theorem dX5_undo_1 : decode cX5_undo 1 = .ok (.iconst 0, 1) := by decide +kernel
theorem dX5_undo_2 : decode cX5_undo 2 = .ok (.putfield 57, 3) := by decide +kernel
theorem dX5_undo_5 : decode cX5_undo 5 = .ok (.aload_n 0, 1) := by decide +kernel
theorem dX5_undo_6 : decode cX5_undo 6 = .ok (.getfield 92, 3) := by decide +kernel
theorem dX5_undo_9 : decode cX5_undo 9 = .ok (.ifCond .ne 6, 3) := by decide +kernel
theorem dX5_undo_12 : decode cX5_undo 12 = .ok (.bipush (-3), 2) := by decide +kernel
theorem dX5_undo_14 : decode cX5_undo 14 = .ok (.ireturn, 1) := by decide +kernel
theorem dX5_undo_15 : decode cX5_undo 15 = .ok (.aload_n 0, 1) := by decide +kernel
theorem dX5_undo_16 : decode cX5_undo 16 = .ok (.dup, 1) := by decide +kernel
theorem dX5_undo_17 : decode cX5_undo 17 = .ok (.getfield 92, 3) := by decide +kernel
theorem dX5_undo_20 : decode cX5_undo 20 = .ok (.iconst 1, 1) := by decide +kernel
theorem dX5_undo_21 : decode cX5_undo 21 = .ok (.isub, 1) := by decide +kernel
theorem dX5_undo_22 : decode cX5_undo 22 = .ok (.putfield 92, 3) := by decide +kernel
theorem dX5_undo_25 : decode cX5_undo 25 = .ok (.iconst 0, 1) := by decide +kernel
theorem dX5_undo_26 : decode cX5_undo 26 = .ok (.istore_n 1, 1) := by decide +kernel
theorem dX5_undo_27 : decode cX5_undo 27 = .ok (.iload_n 1, 1) := by decide +kernel
theorem dX5_undo_28 : decode cX5_undo 28 = .ok (.bipush 13, 2) := by decide +kernel
theorem dX5_undo_30 : decode cX5_undo 30 = .ok (.if_icmp .ge 29, 3) := by decide +kernel
theorem dX5_undo_33 : decode cX5_undo 33 = .ok (.aload_n 0, 1) := by decide +kernel
theorem dX5_undo_34 : decode cX5_undo 34 = .ok (.getfield 32, 3) := by decide +kernel
theorem dX5_undo_37 : decode cX5_undo 37 = .ok (.iload_n 1, 1) := by decide +kernel
theorem dX5_undo_38 : decode cX5_undo 38 = .ok (.aload_n 0, 1) := by decide +kernel
theorem dX5_undo_39 : decode cX5_undo 39 = .ok (.getfield 38, 3) := by decide +kernel
theorem dX5_undo_42 : decode cX5_undo 42 = .ok (.bipush 13, 2) := by decide +kernel
theorem dX5_undo_44 : decode cX5_undo 44 = .ok (.aload_n 0, 1) := by decide +kernel
theorem dX5_undo_45 : decode cX5_undo 45 = .ok (.getfield 92, 3) := by decide +kernel
theorem dX5_undo_48 : decode cX5_undo 48 = .ok (.imul, 1) := by decide +kernel
theorem dX5_undo_49 : decode cX5_undo 49 = .ok (.iload_n 1, 1) := by decide +kernel
theorem dX5_undo_50 : decode cX5_undo 50 = .ok (.iadd, 1) := by decide +kernel
theorem dX5_undo_51 : decode cX5_undo 51 = .ok (.iaload, 1) := by decide +kernel
theorem dX5_undo_52 : decode cX5_undo 52 = .ok (.iastore, 1) := by decide +kernel
theorem dX5_undo_53 : decode cX5_undo 53 = .ok (.iinc 1 1, 3) := by decide +kernel
theorem dX5_undo_56 : decode cX5_undo 56 = .ok (.goto (-29), 3) := by decide +kernel
theorem dX5_undo_59 : decode cX5_undo 59 = .ok (.aload_n 0, 1) := by decide +kernel
theorem dX5_undo_60 : decode cX5_undo 60 = .ok (.getfield 92, 3) := by decide +kernel
theorem dX5_undo_63 : decode cX5_undo 63 = .ok (.ireturn, 1) := by decide +kernel
theorem dX5_hundred_0 : decode cX5_hundred 0 = .ok (.lconst 1, 1) := by decide +kernel
theorem dX5_hundred_1 : decode cX5_hundred 1 = .ok (.lstore_n 1, 1) := by decide +kernel
theorem dX5_hundred_2 : decode cX5_hundred 2 = .ok (.iconst 0, 1) := by decide +kernel
theorem dX5_hundred_3 : decode cX5_hundred 3 = .ok (.istore_n 3, 1) := by decide +kernel
theorem dX5_hundred_4 : decode cX5_hundred 4 = .ok (.iload_n 3, 1) := by decide +kernel
theorem dX5_hundred_5 : decode cX5_hundred 5 = .ok (.iload_n 0, 1) := by decide +kernel
theorem dX5_hundred_6 : decode cX5_hundred 6 = .ok (.if_icmp .ge 15, 3) := by decide +kernel
theorem dX5_hundred_9 : decode cX5_hundred 9 = .ok (.lload_n 1, 1) := by decide +kernel
theorem dX5_hundred_10 : decode cX5_hundred 10 = .ok (.ldc2_w 132, 3) := by decide +kernel
theorem dX5_hundred_13 : decode cX5_hundred 13 = .ok (.lmul, 1) := by decide +kernel
theorem dX5_hundred_14 : decode cX5_hundred 14 = .ok (.lstore_n 1, 1) := by decide +kernel
theorem dX5_hundred_15 : decode cX5_hundred 15 = .ok (.iinc 3 1, 3) := by decide +kernel
theorem dX5_hundred_18 : decode cX5_hundred 18 = .ok (.goto (-14), 3) := by decide +kernel
theorem dX5_hundred_21 : decode cX5_hundred 21 = .ok (.lload_n 1, 1) := by decide +kernel
theorem dX5_hundred_22 : decode cX5_hundred 22 = .ok (.lreturn, 1) := by decide +kernel
set_option maxRecDepth 20000 in
theorem ggX5_treadsOf_X5_hundred : GoodIn wsX5_treadsOf wsX5_hundred := goodIn_r _ [5, 1] (by decide +kernel) (by decide +kernel)
set_option maxRecDepth 20000 in
theorem gX5_treadsOf_X5_hundred : GoodIn wsX5_treadsOf (va_wsS RX5 134 yX5_hundred wsX5_hundred) := goodIn_app (goodIn_of _ (by decide +kernel)) ggX5_treadsOf_X5_hundred
theorem dX5_treadsOf_0 : decode cX5_treadsOf 0 = .ok (.lload_n 1, 1) := by decide +kernel
theorem dX5_treadsOf_1 : decode cX5_treadsOf 1 = .ok (.iload_n 0, 1) := by decide +kernel
theorem dX5_treadsOf_2 : decode cX5_treadsOf 2 = .ok (.iconst 1, 1) := by decide +kernel
theorem dX5_treadsOf_3 : decode cX5_treadsOf 3 = .ok (.isub, 1) := by decide +kernel
theorem dX5_treadsOf_4 : decode cX5_treadsOf 4 = .ok (.iload_n 3, 1) := by decide +kernel
theorem dX5_treadsOf_5 : decode cX5_treadsOf 5 = .ok (.isub, 1) := by decide +kernel
theorem dX5_treadsOf_6 : decode cX5_treadsOf 6 = .ok (.invokestatic 134, 3) := by decide +kernel
theorem dX5_treadsOf_9 : decode cX5_treadsOf 9 = .ok (.ldiv, 1) := by decide +kernel
theorem dX5_treadsOf_10 : decode cX5_treadsOf 10 = .ok (.ldc2_w 132, 3) := by decide +kernel
theorem dX5_treadsOf_13 : decode cX5_treadsOf 13 = .ok (.lrem, 1) := by decide +kernel
theorem dX5_treadsOf_14 : decode cX5_treadsOf 14 = .ok (.l2i, 1) := by decide +kernel
theorem dX5_treadsOf_15 : decode cX5_treadsOf 15 = .ok (.ireturn, 1) := by decide +kernel
set_option maxRecDepth 20000 in
theorem ggX5_noSong_X5_in : GoodIn wsX5_noSong wsX5_in := goodIn_r _ [5] (by decide +kernel) (by decide +kernel)
set_option maxRecDepth 20000 in
theorem gX5_noSong_X5_in : GoodIn wsX5_noSong (va_wsS RX5 63 yX5_in wsX5_in) := goodIn_app (goodIn_of _ (by decide +kernel)) ggX5_noSong_X5_in
set_option maxRecDepth 20000 in
theorem ggX5_noSong_X5_hundred : GoodIn wsX5_noSong wsX5_hundred := goodIn_r _ [8, 9] (by decide +kernel) (by decide +kernel)
set_option maxRecDepth 20000 in
theorem gX5_noSong_X5_hundred : GoodIn wsX5_noSong (va_wsS RX5 134 yX5_hundred wsX5_hundred) := goodIn_app (goodIn_of _ (by decide +kernel)) ggX5_noSong_X5_hundred
set_option maxRecDepth 20000 in
theorem ggX5_noSong_X5_treadsOf : GoodIn wsX5_noSong wsX5_treadsOf := goodIn_r _ [12, 9, 6, 7, 4, 8] (by decide +kernel) (by decide +kernel)
set_option maxRecDepth 20000 in
theorem gX5_noSong_X5_treadsOf : GoodIn wsX5_noSong (va_wsS RX5 140 yX5_treadsOf wsX5_treadsOf) := goodIn_app (goodIn_of _ (by decide +kernel)) ggX5_noSong_X5_treadsOf
theorem dX5_noSong_0 : decode cX5_noSong 0 = .ok (.iload_n 0, 1) := by decide +kernel
theorem dX5_noSong_1 : decode cX5_noSong 1 = .ok (.i2l, 1) := by decide +kernel
theorem dX5_noSong_2 : decode cX5_noSong 2 = .ok (.lconst 1, 1) := by decide +kernel
theorem dX5_noSong_3 : decode cX5_noSong 3 = .ok (.ldc2_w 138, 3) := by decide +kernel
theorem dX5_noSong_6 : decode cX5_noSong 6 = .ok (.invokestatic 63, 3) := by decide +kernel
theorem dX5_noSong_9 : decode cX5_noSong 9 = .ok (.ifCond .eq 17, 3) := by decide +kernel
theorem dX5_noSong_12 : decode cX5_noSong 12 = .ok (.lload_n 1, 1) := by decide +kernel
theorem dX5_noSong_13 : decode cX5_noSong 13 = .ok (.lconst 0, 1) := by decide +kernel
theorem dX5_noSong_14 : decode cX5_noSong 14 = .ok (.iload_n 0, 1) := by decide +kernel
theorem dX5_noSong_15 : decode cX5_noSong 15 = .ok (.invokestatic 134, 3) := by decide +kernel
theorem dX5_noSong_18 : decode cX5_noSong 18 = .ok (.lconst 1, 1) := by decide +kernel
theorem dX5_noSong_19 : decode cX5_noSong 19 = .ok (.lsub, 1) := by decide +kernel
theorem dX5_noSong_20 : decode cX5_noSong 20 = .ok (.invokestatic 63, 3) := by decide +kernel
theorem dX5_noSong_23 : decode cX5_noSong 23 = .ok (.ifCond .ne 5, 3) := by decide +kernel
theorem dX5_noSong_26 : decode cX5_noSong 26 = .ok (.iconst 1, 1) := by decide +kernel
theorem dX5_noSong_27 : decode cX5_noSong 27 = .ok (.ireturn, 1) := by decide +kernel
theorem dX5_noSong_28 : decode cX5_noSong 28 = .ok (.iconst 1, 1) := by decide +kernel
theorem dX5_noSong_29 : decode cX5_noSong 29 = .ok (.istore_n 3, 1) := by decide +kernel
theorem dX5_noSong_30 : decode cX5_noSong 30 = .ok (.iconst 0, 1) := by decide +kernel
theorem dX5_noSong_31 : decode cX5_noSong 31 = .ok (.istore 4, 2) := by decide +kernel
theorem dX5_noSong_33 : decode cX5_noSong 33 = .ok (.iload 4, 2) := by decide +kernel
theorem dX5_noSong_35 : decode cX5_noSong 35 = .ok (.iload_n 0, 1) := by decide +kernel
theorem dX5_noSong_36 : decode cX5_noSong 36 = .ok (.if_icmp .ge 31, 3) := by decide +kernel
theorem dX5_noSong_39 : decode cX5_noSong 39 = .ok (.iload_n 3, 1) := by decide +kernel
theorem dX5_noSong_40 : decode cX5_noSong 40 = .ok (.ifCond .eq 19, 3) := by decide +kernel
theorem dX5_noSong_43 : decode cX5_noSong 43 = .ok (.iload_n 0, 1) := by decide +kernel
theorem dX5_noSong_44 : decode cX5_noSong 44 = .ok (.lload_n 1, 1) := by decide +kernel
theorem dX5_noSong_45 : decode cX5_noSong 45 = .ok (.iload 4, 2) := by decide +kernel
theorem dX5_noSong_47 : decode cX5_noSong 47 = .ok (.invokestatic 140, 3) := by decide +kernel
theorem dX5_noSong_50 : decode cX5_noSong 50 = .ok (.bipush 31, 2) := by decide +kernel
theorem dX5_noSong_52 : decode cX5_noSong 52 = .ok (.if_icmp .gt 7, 3) := by decide +kernel
theorem dX5_noSong_55 : decode cX5_noSong 55 = .ok (.iconst 1, 1) := by decide +kernel
theorem dX5_noSong_56 : decode cX5_noSong 56 = .ok (.goto 4, 3) := by decide +kernel
theorem dX5_noSong_59 : decode cX5_noSong 59 = .ok (.iconst 0, 1) := by decide +kernel
theorem dX5_noSong_60 : decode cX5_noSong 60 = .ok (.istore_n 3, 1) := by decide +kernel
theorem dX5_noSong_61 : decode cX5_noSong 61 = .ok (.iinc 4 1, 3) := by decide +kernel
theorem dX5_noSong_64 : decode cX5_noSong 64 = .ok (.goto (-31), 3) := by decide +kernel
theorem dX5_noSong_67 : decode cX5_noSong 67 = .ok (.iload_n 3, 1) := by decide +kernel
theorem dX5_noSong_68 : decode cX5_noSong 68 = .ok (.ifCond .ne 7, 3) := by decide +kernel
theorem dX5_noSong_71 : decode cX5_noSong 71 = .ok (.iconst 1, 1) := by decide +kernel
theorem dX5_noSong_72 : decode cX5_noSong 72 = .ok (.goto 4, 3) := by decide +kernel
theorem dX5_noSong_75 : decode cX5_noSong 75 = .ok (.iconst 0, 1) := by decide +kernel
theorem dX5_noSong_76 : decode cX5_noSong 76 = .ok (.ireturn, 1) := by decide +kernel
theorem dX5_begin_0 : decode cX5_begin 0 = .ok (.iconst 0, 1) := by decide +kernel
theorem dX5_begin_1 : decode cX5_begin 1 = .ok (.istore_n 1, 1) := by decide +kernel
theorem dX5_begin_2 : decode cX5_begin 2 = .ok (.iload_n 1, 1) := by decide +kernel
theorem dX5_begin_3 : decode cX5_begin 3 = .ok (.bipush 13, 2) := by decide +kernel
theorem dX5_begin_5 : decode cX5_begin 5 = .ok (.if_icmp .ge 21, 3) := by decide +kernel
theorem dX5_begin_8 : decode cX5_begin 8 = .ok (.aload_n 0, 1) := by decide +kernel
theorem dX5_begin_9 : decode cX5_begin 9 = .ok (.getfield 35, 3) := by decide +kernel
theorem dX5_begin_12 : decode cX5_begin 12 = .ok (.iload_n 1, 1) := by decide +kernel
theorem dX5_begin_13 : decode cX5_begin 13 = .ok (.aload_n 0, 1) := by decide +kernel
theorem dX5_begin_14 : decode cX5_begin 14 = .ok (.getfield 32, 3) := by decide +kernel
theorem dX5_begin_17 : decode cX5_begin 17 = .ok (.iload_n 1, 1) := by decide +kernel
theorem dX5_begin_18 : decode cX5_begin 18 = .ok (.iaload, 1) := by decide +kernel
theorem dX5_begin_19 : decode cX5_begin 19 = .ok (.iastore, 1) := by decide +kernel
theorem dX5_begin_20 : decode cX5_begin 20 = .ok (.iinc 1 1, 3) := by decide +kernel
theorem dX5_begin_23 : decode cX5_begin 23 = .ok (.goto (-21), 3) := by decide +kernel
theorem dX5_begin_26 : decode cX5_begin 26 = .ok (.return_, 1) := by decide +kernel
set_option maxRecDepth 20000 in
theorem ggX5_sing_X5_treadsOf : GoodIn wsX5_sing wsX5_treadsOf := goodIn_r _ [6, 7, 8, 9, 5, 10] (by decide +kernel) (by decide +kernel)
set_option maxRecDepth 20000 in
theorem gX5_sing_X5_treadsOf : GoodIn wsX5_sing (va_wsS RX5 140 yX5_treadsOf wsX5_treadsOf) := goodIn_app (goodIn_of _ (by decide +kernel)) ggX5_sing_X5_treadsOf
set_option maxRecDepth 20000 in
theorem ggX5_sing_X5_goMinute : GoodIn wsX5_sing wsX5_goMinute := goodIn_r _ [14, 15, 16, 17, 18, 19, 20, 5, 21, 22, 23, 24, 25, 26, 27, 28, 29, 30, 31, 32, 33, 34, 35, 36, 37, 38, 39, 40, 41, 42, 43, 44, 45, 46, 47, 48, 49, 50, 51, 52, 53] (by decide +kernel) (by decide +kernel)
set_option maxRecDepth 20000 in
theorem gX5_sing_X5_goMinute : GoodIn wsX5_sing (wsV RX5 127 RX5 yX5_goMinute wsX5_goMinute) := goodIn_app (goodIn_of _ (by decide +kernel)) ggX5_sing_X5_goMinute
theorem dX5_sing_0 : decode cX5_sing 0 = .ok (.bipush (-9), 2) := by decide +kernel
theorem dX5_sing_2 : decode cX5_sing 2 = .ok (.istore 4, 2) := by decide +kernel
theorem dX5_sing_4 : decode cX5_sing 4 = .ok (.iconst 0, 1) := by decide +kernel
theorem dX5_sing_5 : decode cX5_sing 5 = .ok (.istore 5, 2) := by decide +kernel
theorem dX5_sing_7 : decode cX5_sing 7 = .ok (.iload 5, 2) := by decide +kernel
theorem dX5_sing_9 : decode cX5_sing 9 = .ok (.iload_n 1, 1) := by decide +kernel
theorem dX5_sing_10 : decode cX5_sing 10 = .ok (.if_icmp .ge 61, 3) := by decide +kernel
theorem dX5_sing_13 : decode cX5_sing 13 = .ok (.aload_n 0, 1) := by decide +kernel
theorem dX5_sing_14 : decode cX5_sing 14 = .ok (.getfield 35, 3) := by decide +kernel
theorem dX5_sing_17 : decode cX5_sing 17 = .ok (.bipush 11, 2) := by decide +kernel
theorem dX5_sing_19 : decode cX5_sing 19 = .ok (.iaload, 1) := by decide +kernel
theorem dX5_sing_20 : decode cX5_sing 20 = .ok (.aload_n 0, 1) := by decide +kernel
theorem dX5_sing_21 : decode cX5_sing 21 = .ok (.getfield 13, 3) := by decide +kernel
theorem dX5_sing_24 : decode cX5_sing 24 = .ok (.if_icmp .ge 47, 3) := by decide +kernel
theorem dX5_sing_27 : decode cX5_sing 27 = .ok (.aload_n 0, 1) := by decide +kernel
theorem dX5_sing_28 : decode cX5_sing 28 = .ok (.aload_n 0, 1) := by decide +kernel
theorem dX5_sing_29 : decode cX5_sing 29 = .ok (.getfield 35, 3) := by decide +kernel
theorem dX5_sing_32 : decode cX5_sing 32 = .ok (.iload_n 1, 1) := by decide +kernel
theorem dX5_sing_33 : decode cX5_sing 33 = .ok (.lload_n 2, 1) := by decide +kernel
theorem dX5_sing_34 : decode cX5_sing 34 = .ok (.iload 5, 2) := by decide +kernel
theorem dX5_sing_36 : decode cX5_sing 36 = .ok (.invokestatic 140, 3) := by decide +kernel
theorem dX5_sing_39 : decode cX5_sing 39 = .ok (.invokevirtual 127, 3) := by decide +kernel
theorem dX5_sing_42 : decode cX5_sing 42 = .ok (.istore 6, 2) := by decide +kernel
theorem dX5_sing_44 : decode cX5_sing 44 = .ok (.iload 6, 2) := by decide +kernel
theorem dX5_sing_46 : decode cX5_sing 46 = .ok (.ifCond .eq 15, 3) := by decide +kernel
theorem dX5_sing_49 : decode cX5_sing 49 = .ok (.iload 4, 2) := by decide +kernel
theorem dX5_sing_51 : decode cX5_sing 51 = .ok (.bipush (-9), 2) := by decide +kernel
theorem dX5_sing_53 : decode cX5_sing 53 = .ok (.if_icmp .ne 8, 3) := by decide +kernel
theorem dX5_sing_56 : decode cX5_sing 56 = .ok (.iload 5, 2) := by decide +kernel
theorem dX5_sing_58 : decode cX5_sing 58 = .ok (.goto 5, 3) := by decide +kernel
theorem dX5_sing_61 : decode cX5_sing 61 = .ok (.iload 4, 2) := by decide +kernel
theorem dX5_sing_63 : decode cX5_sing 63 = .ok (.istore 4, 2) := by decide +kernel
theorem dX5_sing_65 : decode cX5_sing 65 = .ok (.iinc 5 1, 3) := by decide +kernel
theorem dX5_sing_68 : decode cX5_sing 68 = .ok (.goto (-61), 3) := by decide +kernel
theorem dX5_sing_71 : decode cX5_sing 71 = .ok (.iload 4, 2) := by decide +kernel
theorem dX5_sing_73 : decode cX5_sing 73 = .ok (.ireturn, 1) := by decide +kernel
set_option maxRecDepth 20000 in
theorem ggX5_left_X5_noSong : GoodIn wsX5_left wsX5_noSong := goodIn_r _ [6, 7, 8, 9, 5, 10, 11, 12, 13, 14, 15, 16, 17] (by decide +kernel) (by decide +kernel)
set_option maxRecDepth 20000 in
theorem gX5_left_X5_noSong : GoodIn wsX5_left (va_wsS RX5 144 yX5_noSong wsX5_noSong) := goodIn_app (goodIn_of _ (by decide +kernel)) ggX5_left_X5_noSong
set_option maxRecDepth 20000 in
theorem ggX5_left_X5_begin : GoodIn wsX5_left wsX5_begin := goodIn_r _ [21, 2, 22, 46, 47, 48, 49, 50, 51, 52, 53, 54, 55, 56, 57, 58, 59, 60, 61, 62, 63, 64, 65, 66, 67, 68, 69, 70, 71, 72, 73] (by decide +kernel) (by decide +kernel)
set_option maxRecDepth 20000 in
theorem gX5_left_X5_begin : GoodIn wsX5_left (wsV RX5 148 RX5 yX5_begin wsX5_begin) := goodIn_app (goodIn_of _ (by decide +kernel)) ggX5_left_X5_begin
set_option maxRecDepth 20000 in
theorem ggX5_left_X5_sing : GoodIn wsX5_left wsX5_sing := goodIn_r _ [26, 2, 27, 15, 16, 5, 17, 14, 11, 12, 13, 28, 29, 30, 31, 32, 33, 34, 35, 36, 37, 38, 39, 40, 41, 42, 46, 47, 48, 49, 50, 51, 52, 53, 54, 55, 56, 57, 58, 59, 60, 61, 62, 63, 64, 65, 66, 67, 68, 69, 70, 71, 72, 73] (by decide +kernel) (by decide +kernel)
set_option maxRecDepth 20000 in
theorem gX5_left_X5_sing : GoodIn wsX5_left (wsV RX5 151 RX5 yX5_sing wsX5_sing) := goodIn_app (goodIn_of _ (by decide +kernel)) ggX5_left_X5_sing
set_option maxRecDepth 20000 in
theorem ggX5_left_X5_rowOf : GoodIn wsX5_left wsX5_rowOf := goodIn_r _ [45] (by decide +kernel) (by decide +kernel)
set_option maxRecDepth 20000 in
theorem gX5_left_X5_rowOf : GoodIn wsX5_left (va_wsS RX5 95 yX5_rowOf wsX5_rowOf) := goodIn_app (goodIn_of _ (by decide +kernel)) ggX5_left_X5_rowOf
theorem dX5_left_0 : decode cX5_left 0 = .ok (.aload_n 0, 1) := by decide +kernel
theorem dX5_left_1 : decode cX5_left 1 = .ok (.iconst 0, 1) := by decide +kernel
theorem dX5_left_2 : decode cX5_left 2 = .ok (.putfield 57, 3) := by decide +kernel
theorem dX5_left_5 : decode cX5_left 5 = .ok (.iload_n 1, 1) := by decide +kernel
theorem dX5_left_6 : decode cX5_left 6 = .ok (.lload_n 2, 1) := by decide +kernel
theorem dX5_left_7 : decode cX5_left 7 = .ok (.invokestatic 144, 3) := by decide +kernel
theorem dX5_left_10 : decode cX5_left 10 = .ok (.ifCond .eq 6, 3) := by decide +kernel
theorem dX5_left_13 : decode cX5_left 13 = .ok (.bipush (-2), 2) := by decide +kernel
theorem dX5_left_15 : decode cX5_left 15 = .ok (.ireturn, 1) := by decide +kernel
theorem dX5_left_16 : decode cX5_left 16 = .ok (.aload_n 0, 1) := by decide +kernel
theorem dX5_left_17 : decode cX5_left 17 = .ok (.invokevirtual 148, 3) := by decide +kernel
theorem dX5_left_20 : decode cX5_left 20 = .ok (.aload_n 0, 1) := by decide +kernel
theorem dX5_left_21 : decode cX5_left 21 = .ok (.iload_n 1, 1) := by decide +kernel
theorem dX5_left_22 : decode cX5_left 22 = .ok (.lload_n 2, 1) := by decide +kernel
theorem dX5_left_23 : decode cX5_left 23 = .ok (.invokevirtual 151, 3) := by decide +kernel
theorem dX5_left_26 : decode cX5_left 26 = .ok (.pop, 1) := by decide +kernel
theorem dX5_left_27 : decode cX5_left 27 = .ok (.aload_n 0, 1) := by decide +kernel
theorem dX5_left_28 : decode cX5_left 28 = .ok (.getfield 35, 3) := by decide +kernel
theorem dX5_left_31 : decode cX5_left 31 = .ok (.invokestatic 95, 3) := by decide +kernel
theorem dX5_left_34 : decode cX5_left 34 = .ok (.ireturn, 1) := by decide +kernel
set_option maxRecDepth 20000 in
theorem ggX5_firstTurn_X5_noSong : GoodIn wsX5_firstTurn wsX5_noSong := goodIn_r _ [5, 6, 7, 8, 4, 9, 10, 11, 12, 13, 14, 15, 16] (by decide +kernel) (by decide +kernel)
set_option maxRecDepth 20000 in
theorem gX5_firstTurn_X5_noSong : GoodIn wsX5_firstTurn (va_wsS RX5 144 yX5_noSong wsX5_noSong) := goodIn_app (goodIn_of _ (by decide +kernel)) ggX5_firstTurn_X5_noSong
set_option maxRecDepth 20000 in
theorem ggX5_firstTurn_X5_begin : GoodIn wsX5_firstTurn wsX5_begin := goodIn_r _ [20, 21, 22, 43, 44, 45, 46, 47, 48, 49, 50, 51, 52, 53, 54, 55, 56, 57, 58, 59, 60, 61, 62, 63, 64, 65, 66, 67, 68, 69, 70] (by decide +kernel) (by decide +kernel)
set_option maxRecDepth 20000 in
theorem gX5_firstTurn_X5_begin : GoodIn wsX5_firstTurn (wsV RX5 148 RX5 yX5_begin wsX5_begin) := goodIn_app (goodIn_of _ (by decide +kernel)) ggX5_firstTurn_X5_begin
set_option maxRecDepth 20000 in
theorem ggX5_firstTurn_X5_sing : GoodIn wsX5_firstTurn wsX5_sing := goodIn_r _ [26, 21, 27, 14, 15, 4, 16, 13, 10, 11, 12, 28, 29, 30, 31, 32, 33, 34, 35, 36, 37, 38, 39, 40, 41, 42, 43, 44, 45, 46, 47, 48, 49, 50, 51, 52, 53, 54, 55, 56, 57, 58, 59, 60, 61, 62, 63, 64, 65, 66, 67, 68, 69, 70] (by decide +kernel) (by decide +kernel)
set_option maxRecDepth 20000 in
theorem gX5_firstTurn_X5_sing : GoodIn wsX5_firstTurn (wsV RX5 151 RX5 yX5_sing wsX5_sing) := goodIn_app (goodIn_of _ (by decide +kernel)) ggX5_firstTurn_X5_sing
theorem dX5_firstTurn_0 : decode cX5_firstTurn 0 = .ok (.aload_n 0, 1) := by decide +kernel
theorem dX5_firstTurn_1 : decode cX5_firstTurn 1 = .ok (.iconst 0, 1) := by decide +kernel
theorem dX5_firstTurn_2 : decode cX5_firstTurn 2 = .ok (.putfield 57, 3) := by decide +kernel
theorem dX5_firstTurn_5 : decode cX5_firstTurn 5 = .ok (.iload_n 1, 1) := by decide +kernel
theorem dX5_firstTurn_6 : decode cX5_firstTurn 6 = .ok (.lload_n 2, 1) := by decide +kernel
theorem dX5_firstTurn_7 : decode cX5_firstTurn 7 = .ok (.invokestatic 144, 3) := by decide +kernel
theorem dX5_firstTurn_10 : decode cX5_firstTurn 10 = .ok (.ifCond .eq 6, 3) := by decide +kernel
theorem dX5_firstTurn_13 : decode cX5_firstTurn 13 = .ok (.bipush (-2), 2) := by decide +kernel
theorem dX5_firstTurn_15 : decode cX5_firstTurn 15 = .ok (.ireturn, 1) := by decide +kernel
theorem dX5_firstTurn_16 : decode cX5_firstTurn 16 = .ok (.aload_n 0, 1) := by decide +kernel
theorem dX5_firstTurn_17 : decode cX5_firstTurn 17 = .ok (.invokevirtual 148, 3) := by decide +kernel
theorem dX5_firstTurn_20 : decode cX5_firstTurn 20 = .ok (.aload_n 0, 1) := by decide +kernel
theorem dX5_firstTurn_21 : decode cX5_firstTurn 21 = .ok (.iload_n 1, 1) := by decide +kernel
theorem dX5_firstTurn_22 : decode cX5_firstTurn 22 = .ok (.lload_n 2, 1) := by decide +kernel
theorem dX5_firstTurn_23 : decode cX5_firstTurn 23 = .ok (.invokevirtual 151, 3) := by decide +kernel
theorem dX5_firstTurn_26 : decode cX5_firstTurn 26 = .ok (.ireturn, 1) := by decide +kernel
theorem dX5_hush_0 : decode cX5_hush 0 = .ok (.iconst 0, 1) := by decide +kernel
theorem dX5_hush_1 : decode cX5_hush 1 = .ok (.istore_n 1, 1) := by decide +kernel
theorem dX5_hush_2 : decode cX5_hush 2 = .ok (.iload_n 1, 1) := by decide +kernel
theorem dX5_hush_3 : decode cX5_hush 3 = .ok (.iconst 5, 1) := by decide +kernel
theorem dX5_hush_4 : decode cX5_hush 4 = .ok (.if_icmp .ge 19, 3) := by decide +kernel
theorem dX5_hush_7 : decode cX5_hush 7 = .ok (.aload_n 0, 1) := by decide +kernel
theorem dX5_hush_8 : decode cX5_hush 8 = .ok (.getfield 35, 3) := by decide +kernel
theorem dX5_hush_11 : decode cX5_hush 11 = .ok (.bipush 6, 2) := by decide +kernel
theorem dX5_hush_13 : decode cX5_hush 13 = .ok (.iload_n 1, 1) := by decide +kernel
theorem dX5_hush_14 : decode cX5_hush 14 = .ok (.iadd, 1) := by decide +kernel
theorem dX5_hush_15 : decode cX5_hush 15 = .ok (.iconst 0, 1) := by decide +kernel
theorem dX5_hush_16 : decode cX5_hush 16 = .ok (.iastore, 1) := by decide +kernel
theorem dX5_hush_17 : decode cX5_hush 17 = .ok (.iinc 1 1, 3) := by decide +kernel
theorem dX5_hush_20 : decode cX5_hush 20 = .ok (.goto (-18), 3) := by decide +kernel
theorem dX5_hush_23 : decode cX5_hush 23 = .ok (.return_, 1) := by decide +kernel
set_option maxRecDepth 20000 in
theorem ggX5_findOrder_X5_begin : GoodIn wsX5_findOrder wsX5_begin := goodIn_r _ [9, 4, 1, 44, 45, 46, 47, 48, 49, 50, 51, 52, 53, 54, 55, 56, 57, 58, 59, 60, 61, 62, 63, 64, 65, 66, 67, 68, 69, 70, 71] (by decide +kernel) (by decide +kernel)
set_option maxRecDepth 20000 in
theorem gX5_findOrder_X5_begin : GoodIn wsX5_findOrder (wsV RX5 148 RX5 yX5_begin wsX5_begin) := goodIn_app (goodIn_of _ (by decide +kernel)) ggX5_findOrder_X5_begin
set_option maxRecDepth 20000 in
theorem ggX5_findOrder_X5_rowOf : GoodIn wsX5_findOrder wsX5_rowOf := goodIn_r _ [12] (by decide +kernel) (by decide +kernel)
set_option maxRecDepth 20000 in
theorem gX5_findOrder_X5_rowOf : GoodIn wsX5_findOrder (va_wsS RX5 95 yX5_rowOf wsX5_rowOf) := goodIn_app (goodIn_of _ (by decide +kernel)) ggX5_findOrder_X5_rowOf
set_option maxRecDepth 20000 in
theorem ggX5_findOrder_X5_hush : GoodIn wsX5_findOrder wsX5_hush := goodIn_r _ [16, 4, 44, 45, 46, 47, 48, 49, 50, 51, 52, 53, 54, 55, 56, 57, 58, 59, 60, 61, 62, 63, 64, 65, 66, 67, 68, 69, 70, 71] (by decide +kernel) (by decide +kernel)
set_option maxRecDepth 20000 in
theorem gX5_findOrder_X5_hush : GoodIn wsX5_findOrder (wsV RX5 161 RX5 yX5_hush wsX5_hush) := goodIn_app (goodIn_of _ (by decide +kernel)) ggX5_findOrder_X5_hush
set_option maxRecDepth 20000 in
theorem ggX5_findOrder_X5_sing : GoodIn wsX5_findOrder wsX5_sing := goodIn_r _ [20, 4, 21, 22, 23, 8, 24, 25, 26, 27, 28, 29, 30, 31, 32, 33, 34, 35, 36, 37, 38, 39, 40, 41, 42, 43, 44, 45, 46, 47, 48, 49, 50, 51, 52, 53, 54, 55, 56, 57, 58, 59, 60, 61, 62, 63, 64, 65, 66, 67, 68, 69, 70, 71] (by decide +kernel) (by decide +kernel)
set_option maxRecDepth 20000 in
theorem gX5_findOrder_X5_sing : GoodIn wsX5_findOrder (wsV RX5 151 RX5 yX5_sing wsX5_sing) := goodIn_app (goodIn_of _ (by decide +kernel)) ggX5_findOrder_X5_sing
theorem dX5_findOrder_0 : decode cX5_findOrder 0 = .ok (.aload_n 0, 1) := by decide +kernel
theorem dX5_findOrder_1 : decode cX5_findOrder 1 = .ok (.getfield 32, 3) := by decide +kernel
theorem dX5_findOrder_4 : decode cX5_findOrder 4 = .ok (.iconst 5, 1) := by decide +kernel
theorem dX5_findOrder_5 : decode cX5_findOrder 5 = .ok (.iaload, 1) := by decide +kernel
theorem dX5_findOrder_6 : decode cX5_findOrder 6 = .ok (.istore 4, 2) := by decide +kernel
theorem dX5_findOrder_8 : decode cX5_findOrder 8 = .ok (.iconst 1, 1) := by decide +kernel
theorem dX5_findOrder_9 : decode cX5_findOrder 9 = .ok (.istore 5, 2) := by decide +kernel
theorem dX5_findOrder_11 : decode cX5_findOrder 11 = .ok (.iconst 0, 1) := by decide +kernel
theorem dX5_findOrder_12 : decode cX5_findOrder 12 = .ok (.istore 6, 2) := by decide +kernel
theorem dX5_findOrder_14 : decode cX5_findOrder 14 = .ok (.iload 6, 2) := by decide +kernel
theorem dX5_findOrder_16 : decode cX5_findOrder 16 = .ok (.iload 4, 2) := by decide +kernel
theorem dX5_findOrder_18 : decode cX5_findOrder 18 = .ok (.if_icmp .ge 16, 3) := by decide +kernel
theorem dX5_findOrder_21 : decode cX5_findOrder 21 = .ok (.iload 5, 2) := by decide +kernel
theorem dX5_findOrder_23 : decode cX5_findOrder 23 = .ok (.bipush 10, 2) := by decide +kernel
theorem dX5_findOrder_25 : decode cX5_findOrder 25 = .ok (.imul, 1) := by decide +kernel
theorem dX5_findOrder_26 : decode cX5_findOrder 26 = .ok (.istore 5, 2) := by decide +kernel
theorem dX5_findOrder_28 : decode cX5_findOrder 28 = .ok (.iinc 6 1, 3) := by decide +kernel
theorem dX5_findOrder_31 : decode cX5_findOrder 31 = .ok (.goto (-17), 3) := by decide +kernel
theorem dX5_findOrder_34 : decode cX5_findOrder 34 = .ok (.aload_n 0, 1) := by decide +kernel
theorem dX5_findOrder_35 : decode cX5_findOrder 35 = .ok (.iconst 0, 1) := by decide +kernel
theorem dX5_findOrder_36 : decode cX5_findOrder 36 = .ok (.putfield 155, 3) := by decide +kernel
theorem dX5_findOrder_39 : decode cX5_findOrder 39 = .ok (.aload_n 0, 1) := by decide +kernel
theorem dX5_findOrder_40 : decode cX5_findOrder 40 = .ok (.iload 4, 2) := by decide +kernel
theorem dX5_findOrder_42 : decode cX5_findOrder 42 = .ok (.ifCond .ne 7, 3) := by decide +kernel
theorem dX5_findOrder_45 : decode cX5_findOrder 45 = .ok (.iconst 0, 1) := by decide +kernel
theorem dX5_findOrder_46 : decode cX5_findOrder 46 = .ok (.goto 5, 3) := by decide +kernel
theorem dX5_findOrder_49 : decode cX5_findOrder 49 = .ok (.bipush (-9), 2) := by decide +kernel
theorem dX5_findOrder_51 : decode cX5_findOrder 51 = .ok (.putfield 158, 3) := by decide +kernel
theorem dX5_findOrder_54 : decode cX5_findOrder 54 = .ok (.iconst 0, 1) := by decide +kernel
theorem dX5_findOrder_55 : decode cX5_findOrder 55 = .ok (.istore 6, 2) := by decide +kernel
theorem dX5_findOrder_57 : decode cX5_findOrder 57 = .ok (.iload 6, 2) := by decide +kernel
theorem dX5_findOrder_59 : decode cX5_findOrder 59 = .ok (.iload 5, 2) := by decide +kernel
theorem dX5_findOrder_61 : decode cX5_findOrder 61 = .ok (.if_icmp .ge 171, 3) := by decide +kernel
theorem dX5_findOrder_64 : decode cX5_findOrder 64 = .ok (.iload 4, 2) := by decide +kernel
theorem dX5_findOrder_66 : decode cX5_findOrder 66 = .ok (.ifCond .le 166, 3) := by decide +kernel
theorem dX5_findOrder_69 : decode cX5_findOrder 69 = .ok (.iconst 0, 1) := by decide +kernel
theorem dX5_findOrder_70 : decode cX5_findOrder 70 = .ok (.istore 7, 2) := by decide +kernel
theorem dX5_findOrder_72 : decode cX5_findOrder 72 = .ok (.iload 6, 2) := by decide +kernel
theorem dX5_findOrder_74 : decode cX5_findOrder 74 = .ok (.istore 8, 2) := by decide +kernel
theorem dX5_findOrder_76 : decode cX5_findOrder 76 = .ok (.aload_n 0, 1) := by decide +kernel
theorem dX5_findOrder_77 : decode cX5_findOrder 77 = .ok (.invokevirtual 148, 3) := by decide +kernel
theorem dX5_findOrder_80 : decode cX5_findOrder 80 = .ok (.iload 4, 2) := by decide +kernel
theorem dX5_findOrder_82 : decode cX5_findOrder 82 = .ok (.iconst 1, 1) := by decide +kernel
theorem dX5_findOrder_83 : decode cX5_findOrder 83 = .ok (.isub, 1) := by decide +kernel
theorem dX5_findOrder_84 : decode cX5_findOrder 84 = .ok (.istore 9, 2) := by decide +kernel
theorem dX5_findOrder_86 : decode cX5_findOrder 86 = .ok (.iload 9, 2) := by decide +kernel
theorem dX5_findOrder_88 : decode cX5_findOrder 88 = .ok (.ifCond .lt 59, 3) := by decide +kernel
theorem dX5_findOrder_91 : decode cX5_findOrder 91 = .ok (.iload 8, 2) := by decide +kernel
theorem dX5_findOrder_93 : decode cX5_findOrder 93 = .ok (.bipush 10, 2) := by decide +kernel
theorem dX5_findOrder_95 : decode cX5_findOrder 95 = .ok (.irem, 1) := by decide +kernel
theorem dX5_findOrder_96 : decode cX5_findOrder 96 = .ok (.iconst 1, 1) := by decide +kernel
theorem dX5_findOrder_97 : decode cX5_findOrder 97 = .ok (.isub, 1) := by decide +kernel
theorem dX5_findOrder_98 : decode cX5_findOrder 98 = .ok (.istore 10, 2) := by decide +kernel
theorem dX5_findOrder_100 : decode cX5_findOrder 100 = .ok (.iload 8, 2) := by decide +kernel
theorem dX5_findOrder_102 : decode cX5_findOrder 102 = .ok (.bipush 10, 2) := by decide +kernel
theorem dX5_findOrder_104 : decode cX5_findOrder 104 = .ok (.idiv, 1) := by decide +kernel
theorem dX5_findOrder_105 : decode cX5_findOrder 105 = .ok (.istore 8, 2) := by decide +kernel
theorem dX5_findOrder_107 : decode cX5_findOrder 107 = .ok (.iload 7, 2) := by decide +kernel
theorem dX5_findOrder_109 : decode cX5_findOrder 109 = .ok (.iload 10, 2) := by decide +kernel
theorem dX5_findOrder_111 : decode cX5_findOrder 111 = .ok (.ifCond .lt 16, 3) := by decide +kernel
theorem dX5_findOrder_114 : decode cX5_findOrder 114 = .ok (.iload 10, 2) := by decide +kernel
theorem dX5_findOrder_116 : decode cX5_findOrder 116 = .ok (.iconst 5, 1) := by decide +kernel
theorem dX5_findOrder_117 : decode cX5_findOrder 117 = .ok (.if_icmp .ge 10, 3) := by decide +kernel
theorem dX5_findOrder_120 : decode cX5_findOrder 120 = .ok (.iconst 1, 1) := by decide +kernel
theorem dX5_findOrder_121 : decode cX5_findOrder 121 = .ok (.iload 10, 2) := by decide +kernel
theorem dX5_findOrder_123 : decode cX5_findOrder 123 = .ok (.ishl, 1) := by decide +kernel
theorem dX5_findOrder_124 : decode cX5_findOrder 124 = .ok (.goto 5, 3) := by decide +kernel
theorem dX5_findOrder_127 : decode cX5_findOrder 127 = .ok (.bipush 32, 2) := by decide +kernel
theorem dX5_findOrder_129 : decode cX5_findOrder 129 = .ok (.ior, 1) := by decide +kernel
theorem dX5_findOrder_130 : decode cX5_findOrder 130 = .ok (.istore 7, 2) := by decide +kernel
theorem dX5_findOrder_132 : decode cX5_findOrder 132 = .ok (.aload_n 0, 1) := by decide +kernel
theorem dX5_findOrder_133 : decode cX5_findOrder 133 = .ok (.getfield 35, 3) := by decide +kernel
theorem dX5_findOrder_136 : decode cX5_findOrder 136 = .ok (.iload 9, 2) := by decide +kernel
theorem dX5_findOrder_138 : decode cX5_findOrder 138 = .ok (.iload 10, 2) := by decide +kernel
theorem dX5_findOrder_140 : decode cX5_findOrder 140 = .ok (.iastore, 1) := by decide +kernel
theorem dX5_findOrder_141 : decode cX5_findOrder 141 = .ok (.iinc 9 (-1), 3) := by decide +kernel
theorem dX5_findOrder_144 : decode cX5_findOrder 144 = .ok (.goto (-58), 3) := by decide +kernel
theorem dX5_findOrder_147 : decode cX5_findOrder 147 = .ok (.iload 7, 2) := by decide +kernel
theorem dX5_findOrder_149 : decode cX5_findOrder 149 = .ok (.aload_n 0, 1) := by decide +kernel
theorem dX5_findOrder_150 : decode cX5_findOrder 150 = .ok (.getfield 32, 3) := by decide +kernel
theorem dX5_findOrder_153 : decode cX5_findOrder 153 = .ok (.invokestatic 95, 3) := by decide +kernel
theorem dX5_findOrder_156 : decode cX5_findOrder 156 = .ok (.if_icmp .ne 70, 3) := by decide +kernel
theorem dX5_findOrder_159 : decode cX5_findOrder 159 = .ok (.aload_n 0, 1) := by decide +kernel
theorem dX5_findOrder_160 : decode cX5_findOrder 160 = .ok (.invokevirtual 161, 3) := by decide +kernel
theorem dX5_findOrder_163 : decode cX5_findOrder 163 = .ok (.aload_n 0, 1) := by decide +kernel
theorem dX5_findOrder_164 : decode cX5_findOrder 164 = .ok (.iload_n 1, 1) := by decide +kernel
theorem dX5_findOrder_165 : decode cX5_findOrder 165 = .ok (.lload_n 2, 1) := by decide +kernel
theorem dX5_findOrder_166 : decode cX5_findOrder 166 = .ok (.invokevirtual 151, 3) := by decide +kernel
theorem dX5_findOrder_169 : decode cX5_findOrder 169 = .ok (.pop, 1) := by decide +kernel
theorem dX5_findOrder_170 : decode cX5_findOrder 170 = .ok (.aload_n 0, 1) := by decide +kernel
theorem dX5_findOrder_171 : decode cX5_findOrder 171 = .ok (.aload_n 0, 1) := by decide +kernel
theorem dX5_findOrder_172 : decode cX5_findOrder 172 = .ok (.getfield 35, 3) := by decide +kernel
theorem dX5_findOrder_175 : decode cX5_findOrder 175 = .ok (.iconst 5, 1) := by decide +kernel
theorem dX5_findOrder_176 : decode cX5_findOrder 176 = .ok (.iaload, 1) := by decide +kernel
theorem dX5_findOrder_177 : decode cX5_findOrder 177 = .ok (.aload_n 0, 1) := by decide +kernel
theorem dX5_findOrder_178 : decode cX5_findOrder 178 = .ok (.getfield 158, 3) := by decide +kernel
theorem dX5_findOrder_181 : decode cX5_findOrder 181 = .ok (.if_icmp .le 8, 3) := by decide +kernel
theorem dX5_findOrder_184 : decode cX5_findOrder 184 = .ok (.iload 6, 2) := by decide +kernel
theorem dX5_findOrder_186 : decode cX5_findOrder 186 = .ok (.goto 7, 3) := by decide +kernel
theorem dX5_findOrder_189 : decode cX5_findOrder 189 = .ok (.aload_n 0, 1) := by decide +kernel
theorem dX5_findOrder_190 : decode cX5_findOrder 190 = .ok (.getfield 155, 3) := by decide +kernel
theorem dX5_findOrder_193 : decode cX5_findOrder 193 = .ok (.putfield 155, 3) := by decide +kernel
theorem dX5_findOrder_196 : decode cX5_findOrder 196 = .ok (.aload_n 0, 1) := by decide +kernel
theorem dX5_findOrder_197 : decode cX5_findOrder 197 = .ok (.aload_n 0, 1) := by decide +kernel
theorem dX5_findOrder_198 : decode cX5_findOrder 198 = .ok (.getfield 35, 3) := by decide +kernel
theorem dX5_findOrder_201 : decode cX5_findOrder 201 = .ok (.iconst 5, 1) := by decide +kernel
theorem dX5_findOrder_202 : decode cX5_findOrder 202 = .ok (.iaload, 1) := by decide +kernel
theorem dX5_findOrder_203 : decode cX5_findOrder 203 = .ok (.aload_n 0, 1) := by decide +kernel
theorem dX5_findOrder_204 : decode cX5_findOrder 204 = .ok (.getfield 158, 3) := by decide +kernel
theorem dX5_findOrder_207 : decode cX5_findOrder 207 = .ok (.if_icmp .le 12, 3) := by decide +kernel
theorem dX5_findOrder_210 : decode cX5_findOrder 210 = .ok (.aload_n 0, 1) := by decide +kernel
theorem dX5_findOrder_211 : decode cX5_findOrder 211 = .ok (.getfield 35, 3) := by decide +kernel
theorem dX5_findOrder_214 : decode cX5_findOrder 214 = .ok (.iconst 5, 1) := by decide +kernel
theorem dX5_findOrder_215 : decode cX5_findOrder 215 = .ok (.iaload, 1) := by decide +kernel
theorem dX5_findOrder_216 : decode cX5_findOrder 216 = .ok (.goto 7, 3) := by decide +kernel
theorem dX5_findOrder_219 : decode cX5_findOrder 219 = .ok (.aload_n 0, 1) := by decide +kernel
theorem dX5_findOrder_220 : decode cX5_findOrder 220 = .ok (.getfield 158, 3) := by decide +kernel
theorem dX5_findOrder_223 : decode cX5_findOrder 223 = .ok (.putfield 158, 3) := by decide +kernel
theorem dX5_findOrder_226 : decode cX5_findOrder 226 = .ok (.iinc 6 1, 3) := by decide +kernel
theorem dX5_findOrder_229 : decode cX5_findOrder 229 = .ok (.goto (-172), 3) := by decide +kernel
theorem dX5_findOrder_232 : decode cX5_findOrder 232 = .ok (.return_, 1) := by decide +kernel
set_option maxRecDepth 20000 in
theorem ggX5_order_X5_noSong : GoodIn wsX5_order wsX5_noSong := goodIn_r _ [7, 8, 9, 10, 6, 11, 12, 13, 14, 15, 16, 17, 18] (by decide +kernel) (by decide +kernel)
set_option maxRecDepth 20000 in
theorem gX5_order_X5_noSong : GoodIn wsX5_order (va_wsS RX5 144 yX5_noSong wsX5_noSong) := goodIn_app (goodIn_of _ (by decide +kernel)) ggX5_order_X5_noSong
set_option maxRecDepth 20000 in
theorem ggX5_order_X5_in : GoodIn wsX5_order wsX5_in := goodIn_r _ [11] (by decide +kernel) (by decide +kernel)
set_option maxRecDepth 20000 in
theorem gX5_order_X5_in : GoodIn wsX5_order (va_wsS RX5 63 yX5_in wsX5_in) := goodIn_app (goodIn_of _ (by decide +kernel)) ggX5_order_X5_in
set_option maxRecDepth 20000 in
theorem ggX5_order_X5_findOrder : GoodIn wsX5_order wsX5_findOrder := goodIn_r _ [22, 23, 2, 3, 24, 25, 26, 27, 6, 28, 29, 30, 31, 32, 33, 34, 35, 36, 37, 38, 39, 40, 16, 17, 18, 15, 12, 13, 14, 41, 42, 43, 44, 45, 46, 47, 48, 49, 50, 51, 52, 53, 54, 55, 56, 57, 58, 59, 60, 61, 62, 63, 64, 65, 66, 67, 68, 69, 70, 71, 72, 73, 74, 75, 76, 77, 78, 79, 80, 81, 82, 83] (by decide +kernel) (by decide +kernel)
set_option maxRecDepth 20000 in
theorem gX5_order_X5_findOrder : GoodIn wsX5_order (wsV RX5 164 RX5 yX5_findOrder wsX5_findOrder) := goodIn_app (goodIn_of _ (by decide +kernel)) ggX5_order_X5_findOrder
theorem dX5_order_0 : decode cX5_order 0 = .ok (.aload_n 0, 1) := by decide +kernel
theorem dX5_order_1 : decode cX5_order 1 = .ok (.iconst 0, 1) := by decide +kernel
theorem dX5_order_2 : decode cX5_order 2 = .ok (.putfield 57, 3) := by decide +kernel
theorem dX5_order_5 : decode cX5_order 5 = .ok (.iload_n 1, 1) := by decide +kernel
theorem dX5_order_6 : decode cX5_order 6 = .ok (.lload_n 2, 1) := by decide +kernel
theorem dX5_order_7 : decode cX5_order 7 = .ok (.invokestatic 144, 3) := by decide +kernel
theorem dX5_order_10 : decode cX5_order 10 = .ok (.ifCond .ne 14, 3) := by decide +kernel
theorem dX5_order_13 : decode cX5_order 13 = .ok (.iload 4, 2) := by decide +kernel
theorem dX5_order_15 : decode cX5_order 15 = .ok (.i2l, 1) := by decide +kernel
theorem dX5_order_16 : decode cX5_order 16 = .ok (.lconst 0, 1) := by decide +kernel
theorem dX5_order_17 : decode cX5_order 17 = .ok (.lconst 1, 1) := by decide +kernel
theorem dX5_order_18 : decode cX5_order 18 = .ok (.invokestatic 63, 3) := by decide +kernel
theorem dX5_order_21 : decode cX5_order 21 = .ok (.ifCond .ne 6, 3) := by decide +kernel
theorem dX5_order_24 : decode cX5_order 24 = .ok (.bipush (-2), 2) := by decide +kernel
theorem dX5_order_26 : decode cX5_order 26 = .ok (.ireturn, 1) := by decide +kernel
theorem dX5_order_27 : decode cX5_order 27 = .ok (.aload_n 0, 1) := by decide +kernel
theorem dX5_order_28 : decode cX5_order 28 = .ok (.iload_n 1, 1) := by decide +kernel
theorem dX5_order_29 : decode cX5_order 29 = .ok (.lload_n 2, 1) := by decide +kernel
theorem dX5_order_30 : decode cX5_order 30 = .ok (.invokevirtual 164, 3) := by decide +kernel
theorem dX5_order_33 : decode cX5_order 33 = .ok (.iload 4, 2) := by decide +kernel
theorem dX5_order_35 : decode cX5_order 35 = .ok (.ifCond .ne 10, 3) := by decide +kernel
theorem dX5_order_38 : decode cX5_order 38 = .ok (.aload_n 0, 1) := by decide +kernel
theorem dX5_order_39 : decode cX5_order 39 = .ok (.getfield 155, 3) := by decide +kernel
theorem dX5_order_42 : decode cX5_order 42 = .ok (.goto 7, 3) := by decide +kernel
theorem dX5_order_45 : decode cX5_order 45 = .ok (.aload_n 0, 1) := by decide +kernel
theorem dX5_order_46 : decode cX5_order 46 = .ok (.getfield 158, 3) := by decide +kernel
theorem dX5_order_49 : decode cX5_order 49 = .ok (.ireturn, 1) := by decide +kernel
set_option maxRecDepth 20000 in
theorem ggX5_worthOf_X5_begin : GoodIn wsX5_worthOf wsX5_begin := goodIn_r _ [7, 2, 1, 39, 40, 41, 42, 43, 44, 45, 46, 47, 48, 49, 50, 51, 52, 53, 54, 55, 56, 57, 58, 59, 60, 61, 62, 63, 64, 65, 66] (by decide +kernel) (by decide +kernel)
set_option maxRecDepth 20000 in
theorem gX5_worthOf_X5_begin : GoodIn wsX5_worthOf (wsV RX5 148 RX5 yX5_begin wsX5_begin) := goodIn_app (goodIn_of _ (by decide +kernel)) ggX5_worthOf_X5_begin
set_option maxRecDepth 20000 in
theorem ggX5_worthOf_X5_hush : GoodIn wsX5_worthOf wsX5_hush := goodIn_r _ [11, 2, 39, 40, 41, 42, 43, 44, 45, 46, 47, 48, 49, 50, 51, 52, 53, 54, 55, 56, 57, 58, 59, 60, 61, 62, 63, 64, 65, 66] (by decide +kernel) (by decide +kernel)
set_option maxRecDepth 20000 in
theorem gX5_worthOf_X5_hush : GoodIn wsX5_worthOf (wsV RX5 161 RX5 yX5_hush wsX5_hush) := goodIn_app (goodIn_of _ (by decide +kernel)) ggX5_worthOf_X5_hush
set_option maxRecDepth 20000 in
theorem ggX5_worthOf_X5_has : GoodIn wsX5_worthOf wsX5_has := goodIn_r _ [14] (by decide +kernel) (by decide +kernel)
set_option maxRecDepth 20000 in
theorem gX5_worthOf_X5_has : GoodIn wsX5_worthOf (va_wsS RX5 113 yX5_has wsX5_has) := goodIn_app (goodIn_of _ (by decide +kernel)) ggX5_worthOf_X5_has
set_option maxRecDepth 20000 in
theorem ggX5_worthOf_X5_sing : GoodIn wsX5_worthOf wsX5_sing := goodIn_r _ [18, 2, 19, 20, 21, 6, 22, 23, 24, 25, 26, 27, 28, 29, 30, 31, 32, 33, 34, 35, 36, 37, 38, 12, 13, 14, 39, 40, 41, 42, 43, 44, 45, 46, 47, 48, 49, 50, 51, 52, 53, 54, 55, 56, 57, 58, 59, 60, 61, 62, 63, 64, 65, 66] (by decide +kernel) (by decide +kernel)
set_option maxRecDepth 20000 in
theorem gX5_worthOf_X5_sing : GoodIn wsX5_worthOf (wsV RX5 151 RX5 yX5_sing wsX5_sing) := goodIn_app (goodIn_of _ (by decide +kernel)) ggX5_worthOf_X5_sing
theorem dX5_worthOf_0 : decode cX5_worthOf 0 = .ok (.aload_n 0, 1) := by decide +kernel
theorem dX5_worthOf_1 : decode cX5_worthOf 1 = .ok (.invokevirtual 148, 3) := by decide +kernel
theorem dX5_worthOf_4 : decode cX5_worthOf 4 = .ok (.aload_n 0, 1) := by decide +kernel
theorem dX5_worthOf_5 : decode cX5_worthOf 5 = .ok (.invokevirtual 161, 3) := by decide +kernel
theorem dX5_worthOf_8 : decode cX5_worthOf 8 = .ok (.iconst 0, 1) := by decide +kernel
theorem dX5_worthOf_9 : decode cX5_worthOf 9 = .ok (.istore 5, 2) := by decide +kernel
theorem dX5_worthOf_11 : decode cX5_worthOf 11 = .ok (.iconst 0, 1) := by decide +kernel
theorem dX5_worthOf_12 : decode cX5_worthOf 12 = .ok (.istore 6, 2) := by decide +kernel
theorem dX5_worthOf_14 : decode cX5_worthOf 14 = .ok (.iload 6, 2) := by decide +kernel
theorem dX5_worthOf_16 : decode cX5_worthOf 16 = .ok (.aload_n 0, 1) := by decide +kernel
theorem dX5_worthOf_17 : decode cX5_worthOf 17 = .ok (.getfield 32, 3) := by decide +kernel
theorem dX5_worthOf_20 : decode cX5_worthOf 20 = .ok (.iconst 5, 1) := by decide +kernel
theorem dX5_worthOf_21 : decode cX5_worthOf 21 = .ok (.iaload, 1) := by decide +kernel
theorem dX5_worthOf_22 : decode cX5_worthOf 22 = .ok (.if_icmp .ge 40, 3) := by decide +kernel
theorem dX5_worthOf_25 : decode cX5_worthOf 25 = .ok (.iload_n 1, 1) := by decide +kernel
theorem dX5_worthOf_26 : decode cX5_worthOf 26 = .ok (.aload_n 0, 1) := by decide +kernel
theorem dX5_worthOf_27 : decode cX5_worthOf 27 = .ok (.getfield 32, 3) := by decide +kernel
theorem dX5_worthOf_30 : decode cX5_worthOf 30 = .ok (.iload 6, 2) := by decide +kernel
theorem dX5_worthOf_32 : decode cX5_worthOf 32 = .ok (.iaload, 1) := by decide +kernel
theorem dX5_worthOf_33 : decode cX5_worthOf 33 = .ok (.invokestatic 113, 3) := by decide +kernel
theorem dX5_worthOf_36 : decode cX5_worthOf 36 = .ok (.ifCond .eq 20, 3) := by decide +kernel
theorem dX5_worthOf_39 : decode cX5_worthOf 39 = .ok (.aload_n 0, 1) := by decide +kernel
theorem dX5_worthOf_40 : decode cX5_worthOf 40 = .ok (.getfield 35, 3) := by decide +kernel
theorem dX5_worthOf_43 : decode cX5_worthOf 43 = .ok (.iload 5, 2) := by decide +kernel
theorem dX5_worthOf_45 : decode cX5_worthOf 45 = .ok (.aload_n 0, 1) := by decide +kernel
theorem dX5_worthOf_46 : decode cX5_worthOf 46 = .ok (.getfield 32, 3) := by decide +kernel
theorem dX5_worthOf_49 : decode cX5_worthOf 49 = .ok (.iload 6, 2) := by decide +kernel
theorem dX5_worthOf_51 : decode cX5_worthOf 51 = .ok (.iaload, 1) := by decide +kernel
theorem dX5_worthOf_52 : decode cX5_worthOf 52 = .ok (.iastore, 1) := by decide +kernel
theorem dX5_worthOf_53 : decode cX5_worthOf 53 = .ok (.iinc 5 1, 3) := by decide +kernel
theorem dX5_worthOf_56 : decode cX5_worthOf 56 = .ok (.iinc 6 1, 3) := by decide +kernel
theorem dX5_worthOf_59 : decode cX5_worthOf 59 = .ok (.goto (-45), 3) := by decide +kernel
theorem dX5_worthOf_62 : decode cX5_worthOf 62 = .ok (.aload_n 0, 1) := by decide +kernel
theorem dX5_worthOf_63 : decode cX5_worthOf 63 = .ok (.getfield 35, 3) := by decide +kernel
theorem dX5_worthOf_66 : decode cX5_worthOf 66 = .ok (.iconst 5, 1) := by decide +kernel
theorem dX5_worthOf_67 : decode cX5_worthOf 67 = .ok (.iload 5, 2) := by decide +kernel
theorem dX5_worthOf_69 : decode cX5_worthOf 69 = .ok (.iastore, 1) := by decide +kernel
theorem dX5_worthOf_70 : decode cX5_worthOf 70 = .ok (.aload_n 0, 1) := by decide +kernel
theorem dX5_worthOf_71 : decode cX5_worthOf 71 = .ok (.iload_n 2, 1) := by decide +kernel
theorem dX5_worthOf_72 : decode cX5_worthOf 72 = .ok (.lload_n 3, 1) := by decide +kernel
theorem dX5_worthOf_73 : decode cX5_worthOf 73 = .ok (.invokevirtual 151, 3) := by decide +kernel
theorem dX5_worthOf_76 : decode cX5_worthOf 76 = .ok (.pop, 1) := by decide +kernel
theorem dX5_worthOf_77 : decode cX5_worthOf 77 = .ok (.aload_n 0, 1) := by decide +kernel
theorem dX5_worthOf_78 : decode cX5_worthOf 78 = .ok (.getfield 35, 3) := by decide +kernel
theorem dX5_worthOf_81 : decode cX5_worthOf 81 = .ok (.iconst 5, 1) := by decide +kernel
theorem dX5_worthOf_82 : decode cX5_worthOf 82 = .ok (.iaload, 1) := by decide +kernel
theorem dX5_worthOf_83 : decode cX5_worthOf 83 = .ok (.ireturn, 1) := by decide +kernel
theorem dX5_orders_0 : decode cX5_orders 0 = .ok (.iconst 1, 1) := by decide +kernel
theorem dX5_orders_1 : decode cX5_orders 1 = .ok (.istore_n 1, 1) := by decide +kernel
theorem dX5_orders_2 : decode cX5_orders 2 = .ok (.iconst 2, 1) := by decide +kernel
theorem dX5_orders_3 : decode cX5_orders 3 = .ok (.istore_n 2, 1) := by decide +kernel
theorem dX5_orders_4 : decode cX5_orders 4 = .ok (.iload_n 2, 1) := by decide +kernel
theorem dX5_orders_5 : decode cX5_orders 5 = .ok (.iload_n 0, 1) := by decide +kernel
theorem dX5_orders_6 : decode cX5_orders 6 = .ok (.if_icmp .gt 13, 3) := by decide +kernel
theorem dX5_orders_9 : decode cX5_orders 9 = .ok (.iload_n 1, 1) := by decide +kernel
theorem dX5_orders_10 : decode cX5_orders 10 = .ok (.iload_n 2, 1) := by decide +kernel
theorem dX5_orders_11 : decode cX5_orders 11 = .ok (.imul, 1) := by decide +kernel
theorem dX5_orders_12 : decode cX5_orders 12 = .ok (.istore_n 1, 1) := by decide +kernel
theorem dX5_orders_13 : decode cX5_orders 13 = .ok (.iinc 2 1, 3) := by decide +kernel
theorem dX5_orders_16 : decode cX5_orders 16 = .ok (.goto (-12), 3) := by decide +kernel
theorem dX5_orders_19 : decode cX5_orders 19 = .ok (.iload_n 1, 1) := by decide +kernel
theorem dX5_orders_20 : decode cX5_orders 20 = .ok (.ireturn, 1) := by decide +kernel
theorem dX5_divisor_0 : decode cX5_divisor 0 = .ok (.iload_n 0, 1) := by decide +kernel
theorem dX5_divisor_1 : decode cX5_divisor 1 = .ok (.ifCond .ge 8, 3) := by decide +kernel
theorem dX5_divisor_4 : decode cX5_divisor 4 = .ok (.iload_n 0, 1) := by decide +kernel
theorem dX5_divisor_5 : decode cX5_divisor 5 = .ok (.ineg, 1) := by decide +kernel
theorem dX5_divisor_6 : decode cX5_divisor 6 = .ok (.goto 4, 3) := by decide +kernel
theorem dX5_divisor_9 : decode cX5_divisor 9 = .ok (.iload_n 0, 1) := by decide +kernel
theorem dX5_divisor_10 : decode cX5_divisor 10 = .ok (.istore_n 2, 1) := by decide +kernel
theorem dX5_divisor_11 : decode cX5_divisor 11 = .ok (.iload_n 1, 1) := by decide +kernel
theorem dX5_divisor_12 : decode cX5_divisor 12 = .ok (.istore_n 3, 1) := by decide +kernel
theorem dX5_divisor_13 : decode cX5_divisor 13 = .ok (.iload_n 3, 1) := by decide +kernel
theorem dX5_divisor_14 : decode cX5_divisor 14 = .ok (.ifCond .eq 16, 3) := by decide +kernel
theorem dX5_divisor_17 : decode cX5_divisor 17 = .ok (.iload_n 2, 1) := by decide +kernel
theorem dX5_divisor_18 : decode cX5_divisor 18 = .ok (.iload_n 3, 1) := by decide +kernel
theorem dX5_divisor_19 : decode cX5_divisor 19 = .ok (.irem, 1) := by decide +kernel
theorem dX5_divisor_20 : decode cX5_divisor 20 = .ok (.istore 4, 2) := by decide +kernel
theorem dX5_divisor_22 : decode cX5_divisor 22 = .ok (.iload_n 3, 1) := by decide +kernel
theorem dX5_divisor_23 : decode cX5_divisor 23 = .ok (.istore_n 2, 1) := by decide +kernel
theorem dX5_divisor_24 : decode cX5_divisor 24 = .ok (.iload 4, 2) := by decide +kernel
theorem dX5_divisor_26 : decode cX5_divisor 26 = .ok (.istore_n 3, 1) := by decide +kernel
theorem dX5_divisor_27 : decode cX5_divisor 27 = .ok (.goto (-14), 3) := by decide +kernel
theorem dX5_divisor_30 : decode cX5_divisor 30 = .ok (.iload_n 2, 1) := by decide +kernel
theorem dX5_divisor_31 : decode cX5_divisor 31 = .ok (.ireturn, 1) := by decide +kernel
set_option maxRecDepth 20000 in
theorem ggX5_fraction_X5_divisor : GoodIn wsX5_fraction wsX5_divisor := goodIn_r _ [4] (by decide +kernel) (by decide +kernel)
set_option maxRecDepth 20000 in
theorem gX5_fraction_X5_divisor : GoodIn wsX5_fraction (va_wsS RX5 168 yX5_divisor wsX5_divisor) := goodIn_app (goodIn_of _ (by decide +kernel)) ggX5_fraction_X5_divisor
theorem dX5_fraction_0 : decode cX5_fraction 0 = .ok (.iload_n 0, 1) := by decide +kernel
theorem dX5_fraction_1 : decode cX5_fraction 1 = .ok (.iload_n 1, 1) := by decide +kernel
theorem dX5_fraction_2 : decode cX5_fraction 2 = .ok (.invokestatic 168, 3) := by decide +kernel
theorem dX5_fraction_5 : decode cX5_fraction 5 = .ok (.istore_n 3, 1) := by decide +kernel
theorem dX5_fraction_6 : decode cX5_fraction 6 = .ok (.iload_n 2, 1) := by decide +kernel
theorem dX5_fraction_7 : decode cX5_fraction 7 = .ok (.ifCond .eq 9, 3) := by decide +kernel
theorem dX5_fraction_10 : decode cX5_fraction 10 = .ok (.iload_n 0, 1) := by decide +kernel
theorem dX5_fraction_11 : decode cX5_fraction 11 = .ok (.iload_n 3, 1) := by decide +kernel
theorem dX5_fraction_12 : decode cX5_fraction 12 = .ok (.idiv, 1) := by decide +kernel
theorem dX5_fraction_13 : decode cX5_fraction 13 = .ok (.goto 6, 3) := by decide +kernel
theorem dX5_fraction_16 : decode cX5_fraction 16 = .ok (.iload_n 1, 1) := by decide +kernel
theorem dX5_fraction_17 : decode cX5_fraction 17 = .ok (.iload_n 3, 1) := by decide +kernel
theorem dX5_fraction_18 : decode cX5_fraction 18 = .ok (.idiv, 1) := by decide +kernel
theorem dX5_fraction_19 : decode cX5_fraction 19 = .ok (.ireturn, 1) := by decide +kernel
set_option maxRecDepth 20000 in
theorem ggX5_share_X5_noOne : GoodIn wsX5_share wsX5_noOne := goodIn_r _ [8, 9, 10, 11, 7, 12, 72, 73, 74, 75, 76, 77, 78, 79, 80, 81, 82, 83, 84, 85, 86, 87, 88, 89, 90, 91, 92, 93, 94, 95, 96, 97, 98, 99] (by decide +kernel) (by decide +kernel)
set_option maxRecDepth 20000 in
theorem gX5_share_X5_noOne : GoodIn wsX5_share (wsV RX5 105 RX5 yX5_noOne wsX5_noOne) := goodIn_app (goodIn_of _ (by decide +kernel)) ggX5_share_X5_noOne
set_option maxRecDepth 20000 in
theorem ggX5_share_X5_noSong : GoodIn wsX5_share wsX5_noSong := goodIn_r _ [15, 16, 10, 11, 7, 12, 17, 18, 19, 20, 21, 22, 23] (by decide +kernel) (by decide +kernel)
set_option maxRecDepth 20000 in
theorem gX5_share_X5_noSong : GoodIn wsX5_share (va_wsS RX5 144 yX5_noSong wsX5_noSong) := goodIn_app (goodIn_of _ (by decide +kernel)) ggX5_share_X5_noSong
set_option maxRecDepth 20000 in
theorem ggX5_share_X5_rowOf : GoodIn wsX5_share wsX5_rowOf := goodIn_r _ [26] (by decide +kernel) (by decide +kernel)
set_option maxRecDepth 20000 in
theorem gX5_share_X5_rowOf : GoodIn wsX5_share (va_wsS RX5 95 yX5_rowOf wsX5_rowOf) := goodIn_app (goodIn_of _ (by decide +kernel)) ggX5_share_X5_rowOf
set_option maxRecDepth 20000 in
theorem ggX5_share_X5_worthOf : GoodIn wsX5_share wsX5_worthOf := goodIn_r _ [30, 2, 31, 32, 33, 34, 7, 35, 36, 37, 38, 39, 40, 41, 42, 43, 44, 45, 46, 47, 21, 22, 23, 20, 17, 18, 19, 48, 49, 50, 51, 52, 53, 54, 55, 56, 57, 58, 59, 72, 73, 74, 75, 76, 77, 78, 79, 80, 81, 82, 83, 84, 85, 86, 87, 88, 89, 90, 91, 92, 93, 94, 95, 96, 97, 98, 99] (by decide +kernel) (by decide +kernel)
set_option maxRecDepth 20000 in
theorem gX5_share_X5_worthOf : GoodIn wsX5_share (wsV RX5 171 RX5 yX5_worthOf wsX5_worthOf) := goodIn_app (goodIn_of _ (by decide +kernel)) ggX5_share_X5_worthOf
set_option maxRecDepth 20000 in
theorem ggX5_share_X5_has : GoodIn wsX5_share wsX5_has := goodIn_r _ [42] (by decide +kernel) (by decide +kernel)
set_option maxRecDepth 20000 in
theorem gX5_share_X5_has : GoodIn wsX5_share (va_wsS RX5 113 yX5_has wsX5_has) := goodIn_app (goodIn_of _ (by decide +kernel)) ggX5_share_X5_has
set_option maxRecDepth 20000 in
theorem ggX5_share_X5_many : GoodIn wsX5_share wsX5_many := goodIn_r _ [62] (by decide +kernel) (by decide +kernel)
set_option maxRecDepth 20000 in
theorem gX5_share_X5_many : GoodIn wsX5_share (va_wsS RX5 175 yX5_many wsX5_many) := goodIn_app (goodIn_of _ (by decide +kernel)) ggX5_share_X5_many
set_option maxRecDepth 20000 in
theorem ggX5_share_X5_orders : GoodIn wsX5_share wsX5_orders := goodIn_r _ [65] (by decide +kernel) (by decide +kernel)
set_option maxRecDepth 20000 in
theorem gX5_share_X5_orders : GoodIn wsX5_share (va_wsS RX5 179 yX5_orders wsX5_orders) := goodIn_app (goodIn_of _ (by decide +kernel)) ggX5_share_X5_orders
set_option maxRecDepth 20000 in
theorem ggX5_share_X5_fraction : GoodIn wsX5_share wsX5_fraction := goodIn_r _ [68, 69, 70, 7, 71] (by decide +kernel) (by decide +kernel)
set_option maxRecDepth 20000 in
theorem gX5_share_X5_fraction : GoodIn wsX5_share (va_wsS RX5 182 yX5_fraction wsX5_fraction) := goodIn_app (goodIn_of _ (by decide +kernel)) ggX5_share_X5_fraction
theorem dX5_share_0 : decode cX5_share 0 = .ok (.aload_n 0, 1) := by decide +kernel
theorem dX5_share_1 : decode cX5_share 1 = .ok (.iconst 0, 1) := by decide +kernel
theorem dX5_share_2 : decode cX5_share 2 = .ok (.putfield 57, 3) := by decide +kernel
theorem dX5_share_5 : decode cX5_share 5 = .ok (.aload_n 0, 1) := by decide +kernel
theorem dX5_share_6 : decode cX5_share 6 = .ok (.iload_n 1, 1) := by decide +kernel
theorem dX5_share_7 : decode cX5_share 7 = .ok (.invokevirtual 105, 3) := by decide +kernel
theorem dX5_share_10 : decode cX5_share 10 = .ok (.ifCond .eq 5, 3) := by decide +kernel
theorem dX5_share_13 : decode cX5_share 13 = .ok (.iconst (-1), 1) := by decide +kernel
theorem dX5_share_14 : decode cX5_share 14 = .ok (.ireturn, 1) := by decide +kernel
theorem dX5_share_15 : decode cX5_share 15 = .ok (.iload_n 2, 1) := by decide +kernel
theorem dX5_share_16 : decode cX5_share 16 = .ok (.lload_n 3, 1) := by decide +kernel
theorem dX5_share_17 : decode cX5_share 17 = .ok (.invokestatic 144, 3) := by decide +kernel
theorem dX5_share_20 : decode cX5_share 20 = .ok (.ifCond .eq 6, 3) := by decide +kernel
theorem dX5_share_23 : decode cX5_share 23 = .ok (.bipush (-2), 2) := by decide +kernel
theorem dX5_share_25 : decode cX5_share 25 = .ok (.ireturn, 1) := by decide +kernel
theorem dX5_share_26 : decode cX5_share 26 = .ok (.aload_n 0, 1) := by decide +kernel
theorem dX5_share_27 : decode cX5_share 27 = .ok (.getfield 32, 3) := by decide +kernel
theorem dX5_share_30 : decode cX5_share 30 = .ok (.invokestatic 95, 3) := by decide +kernel
theorem dX5_share_33 : decode cX5_share 33 = .ok (.istore 6, 2) := by decide +kernel
theorem dX5_share_35 : decode cX5_share 35 = .ok (.aload_n 0, 1) := by decide +kernel
theorem dX5_share_36 : decode cX5_share 36 = .ok (.getfield 32, 3) := by decide +kernel
theorem dX5_share_39 : decode cX5_share 39 = .ok (.iconst 5, 1) := by decide +kernel
theorem dX5_share_40 : decode cX5_share 40 = .ok (.iaload, 1) := by decide +kernel
theorem dX5_share_41 : decode cX5_share 41 = .ok (.istore 7, 2) := by decide +kernel
theorem dX5_share_43 : decode cX5_share 43 = .ok (.iconst 0, 1) := by decide +kernel
theorem dX5_share_44 : decode cX5_share 44 = .ok (.istore 8, 2) := by decide +kernel
theorem dX5_share_46 : decode cX5_share 46 = .ok (.iconst 0, 1) := by decide +kernel
theorem dX5_share_47 : decode cX5_share 47 = .ok (.istore 9, 2) := by decide +kernel
theorem dX5_share_49 : decode cX5_share 49 = .ok (.iload 9, 2) := by decide +kernel
theorem dX5_share_51 : decode cX5_share 51 = .ok (.bipush 32, 2) := by decide +kernel
theorem dX5_share_53 : decode cX5_share 53 = .ok (.if_icmp .ge 38, 3) := by decide +kernel
theorem dX5_share_56 : decode cX5_share 56 = .ok (.aload_n 0, 1) := by decide +kernel
theorem dX5_share_57 : decode cX5_share 57 = .ok (.getfield 54, 3) := by decide +kernel
theorem dX5_share_60 : decode cX5_share 60 = .ok (.iload 9, 2) := by decide +kernel
theorem dX5_share_62 : decode cX5_share 62 = .ok (.iload 9, 2) := by decide +kernel
theorem dX5_share_64 : decode cX5_share 64 = .ok (.iload 6, 2) := by decide +kernel
theorem dX5_share_66 : decode cX5_share 66 = .ok (.iconst (-1), 1) := by decide +kernel
theorem dX5_share_67 : decode cX5_share 67 = .ok (.ixor, 1) := by decide +kernel
theorem dX5_share_68 : decode cX5_share 68 = .ok (.iand, 1) := by decide +kernel
theorem dX5_share_69 : decode cX5_share 69 = .ok (.ifCond .ne 14, 3) := by decide +kernel
theorem dX5_share_72 : decode cX5_share 72 = .ok (.aload_n 0, 1) := by decide +kernel
theorem dX5_share_73 : decode cX5_share 73 = .ok (.iload 9, 2) := by decide +kernel
theorem dX5_share_75 : decode cX5_share 75 = .ok (.iload_n 2, 1) := by decide +kernel
theorem dX5_share_76 : decode cX5_share 76 = .ok (.lload_n 3, 1) := by decide +kernel
theorem dX5_share_77 : decode cX5_share 77 = .ok (.invokevirtual 171, 3) := by decide +kernel
theorem dX5_share_80 : decode cX5_share 80 = .ok (.goto 4, 3) := by decide +kernel
theorem dX5_share_83 : decode cX5_share 83 = .ok (.iconst 0, 1) := by decide +kernel
theorem dX5_share_84 : decode cX5_share 84 = .ok (.iastore, 1) := by decide +kernel
theorem dX5_share_85 : decode cX5_share 85 = .ok (.iinc 9 1, 3) := by decide +kernel
theorem dX5_share_88 : decode cX5_share 88 = .ok (.goto (-39), 3) := by decide +kernel
theorem dX5_share_91 : decode cX5_share 91 = .ok (.iconst 0, 1) := by decide +kernel
theorem dX5_share_92 : decode cX5_share 92 = .ok (.istore 9, 2) := by decide +kernel
theorem dX5_share_94 : decode cX5_share 94 = .ok (.iload 9, 2) := by decide +kernel
theorem dX5_share_96 : decode cX5_share 96 = .ok (.bipush 32, 2) := by decide +kernel
theorem dX5_share_98 : decode cX5_share 98 = .ok (.if_icmp .ge 85, 3) := by decide +kernel
theorem dX5_share_101 : decode cX5_share 101 = .ok (.iload 6, 2) := by decide +kernel
theorem dX5_share_103 : decode cX5_share 103 = .ok (.iload_n 1, 1) := by decide +kernel
theorem dX5_share_104 : decode cX5_share 104 = .ok (.invokestatic 113, 3) := by decide +kernel
theorem dX5_share_107 : decode cX5_share 107 = .ok (.ifCond .eq 76, 3) := by decide +kernel
theorem dX5_share_110 : decode cX5_share 110 = .ok (.iload 9, 2) := by decide +kernel
theorem dX5_share_112 : decode cX5_share 112 = .ok (.iload 6, 2) := by decide +kernel
theorem dX5_share_114 : decode cX5_share 114 = .ok (.iconst (-1), 1) := by decide +kernel
theorem dX5_share_115 : decode cX5_share 115 = .ok (.ixor, 1) := by decide +kernel
theorem dX5_share_116 : decode cX5_share 116 = .ok (.iand, 1) := by decide +kernel
theorem dX5_share_117 : decode cX5_share 117 = .ok (.ifCond .ne 60, 3) := by decide +kernel
theorem dX5_share_120 : decode cX5_share 120 = .ok (.iload 9, 2) := by decide +kernel
theorem dX5_share_122 : decode cX5_share 122 = .ok (.iload_n 1, 1) := by decide +kernel
theorem dX5_share_123 : decode cX5_share 123 = .ok (.invokestatic 113, 3) := by decide +kernel
theorem dX5_share_126 : decode cX5_share 126 = .ok (.ifCond .ne 51, 3) := by decide +kernel
theorem dX5_share_129 : decode cX5_share 129 = .ok (.iload 9, 2) := by decide +kernel
theorem dX5_share_131 : decode cX5_share 131 = .ok (.invokestatic 175, 3) := by decide +kernel
theorem dX5_share_134 : decode cX5_share 134 = .ok (.istore 10, 2) := by decide +kernel
theorem dX5_share_136 : decode cX5_share 136 = .ok (.iload 8, 2) := by decide +kernel
theorem dX5_share_138 : decode cX5_share 138 = .ok (.iload 10, 2) := by decide +kernel
theorem dX5_share_140 : decode cX5_share 140 = .ok (.invokestatic 179, 3) := by decide +kernel
theorem dX5_share_143 : decode cX5_share 143 = .ok (.iload 7, 2) := by decide +kernel
theorem dX5_share_145 : decode cX5_share 145 = .ok (.iconst 1, 1) := by decide +kernel
theorem dX5_share_146 : decode cX5_share 146 = .ok (.isub, 1) := by decide +kernel
theorem dX5_share_147 : decode cX5_share 147 = .ok (.iload 10, 2) := by decide +kernel
theorem dX5_share_149 : decode cX5_share 149 = .ok (.isub, 1) := by decide +kernel
theorem dX5_share_150 : decode cX5_share 150 = .ok (.invokestatic 179, 3) := by decide +kernel
theorem dX5_share_153 : decode cX5_share 153 = .ok (.imul, 1) := by decide +kernel
theorem dX5_share_154 : decode cX5_share 154 = .ok (.aload_n 0, 1) := by decide +kernel
theorem dX5_share_155 : decode cX5_share 155 = .ok (.getfield 54, 3) := by decide +kernel
theorem dX5_share_158 : decode cX5_share 158 = .ok (.iload 9, 2) := by decide +kernel
theorem dX5_share_160 : decode cX5_share 160 = .ok (.iconst 1, 1) := by decide +kernel
theorem dX5_share_161 : decode cX5_share 161 = .ok (.iload_n 1, 1) := by decide +kernel
theorem dX5_share_162 : decode cX5_share 162 = .ok (.ishl, 1) := by decide +kernel
theorem dX5_share_163 : decode cX5_share 163 = .ok (.ior, 1) := by decide +kernel
theorem dX5_share_164 : decode cX5_share 164 = .ok (.iaload, 1) := by decide +kernel
theorem dX5_share_165 : decode cX5_share 165 = .ok (.aload_n 0, 1) := by decide +kernel
theorem dX5_share_166 : decode cX5_share 166 = .ok (.getfield 54, 3) := by decide +kernel
theorem dX5_share_169 : decode cX5_share 169 = .ok (.iload 9, 2) := by decide +kernel
theorem dX5_share_171 : decode cX5_share 171 = .ok (.iaload, 1) := by decide +kernel
theorem dX5_share_172 : decode cX5_share 172 = .ok (.isub, 1) := by decide +kernel
theorem dX5_share_173 : decode cX5_share 173 = .ok (.imul, 1) := by decide +kernel
theorem dX5_share_174 : decode cX5_share 174 = .ok (.iadd, 1) := by decide +kernel
theorem dX5_share_175 : decode cX5_share 175 = .ok (.istore 8, 2) := by decide +kernel
theorem dX5_share_177 : decode cX5_share 177 = .ok (.iinc 9 1, 3) := by decide +kernel
theorem dX5_share_180 : decode cX5_share 180 = .ok (.goto (-86), 3) := by decide +kernel
theorem dX5_share_183 : decode cX5_share 183 = .ok (.iload 8, 2) := by decide +kernel
theorem dX5_share_185 : decode cX5_share 185 = .ok (.iload 7, 2) := by decide +kernel
theorem dX5_share_187 : decode cX5_share 187 = .ok (.invokestatic 179, 3) := by decide +kernel
theorem dX5_share_190 : decode cX5_share 190 = .ok (.iload 5, 2) := by decide +kernel
theorem dX5_share_192 : decode cX5_share 192 = .ok (.invokestatic 182, 3) := by decide +kernel
theorem dX5_share_195 : decode cX5_share 195 = .ok (.ireturn, 1) := by decide +kernel
set_option maxRecDepth 20000 in
theorem ggX5_bears_X5_noOne : GoodIn wsX5_bears wsX5_noOne := goodIn_r _ [10, 11, 12, 13, 9, 14, 33, 34, 35, 36, 37, 38, 39, 40, 41, 42, 43, 44, 45, 46, 47, 48, 49, 50, 51, 52, 53, 54, 55, 56, 57, 58, 59, 60] (by decide +kernel) (by decide +kernel)
set_option maxRecDepth 20000 in
theorem gX5_bears_X5_noOne : GoodIn wsX5_bears (wsV RX5 105 RX5 yX5_noOne wsX5_noOne) := goodIn_app (goodIn_of _ (by decide +kernel)) ggX5_bears_X5_noOne
set_option maxRecDepth 20000 in
theorem ggX5_bears_X5_has : GoodIn wsX5_bears wsX5_has := goodIn_r _ [17] (by decide +kernel) (by decide +kernel)
set_option maxRecDepth 20000 in
theorem gX5_bears_X5_has : GoodIn wsX5_bears (va_wsS RX5 113 yX5_has wsX5_has) := goodIn_app (goodIn_of _ (by decide +kernel)) ggX5_bears_X5_has
set_option maxRecDepth 20000 in
theorem ggX5_bears_X5_begin : GoodIn wsX5_bears wsX5_begin := goodIn_r _ [21, 3, 2, 33, 34, 35, 36, 37, 38, 39, 40, 41, 42, 43, 44, 45, 46, 47, 48, 49, 50, 51, 52, 53, 54, 55, 56, 57, 58, 59, 60] (by decide +kernel) (by decide +kernel)
set_option maxRecDepth 20000 in
theorem gX5_bears_X5_begin : GoodIn wsX5_bears (wsV RX5 148 RX5 yX5_begin wsX5_begin) := goodIn_app (goodIn_of _ (by decide +kernel)) ggX5_bears_X5_begin
set_option maxRecDepth 20000 in
theorem ggX5_bears_X5_goMinute : GoodIn wsX5_bears wsX5_goMinute := goodIn_r _ [25, 26, 5, 27, 28, 29, 30, 9, 31, 32, 15, 16, 17, 33, 34, 35, 36, 37, 38, 39, 40, 41, 42, 43, 44, 45, 46, 47, 48, 49, 50, 51, 52, 53, 54, 55, 56, 57, 58, 59, 60] (by decide +kernel) (by decide +kernel)
set_option maxRecDepth 20000 in
theorem gX5_bears_X5_goMinute : GoodIn wsX5_bears (wsV RX5 127 RX5 yX5_goMinute wsX5_goMinute) := goodIn_app (goodIn_of _ (by decide +kernel)) ggX5_bears_X5_goMinute
theorem dX5_bears_0 : decode cX5_bears 0 = .ok (.aload_n 0, 1) := by decide +kernel
theorem dX5_bears_1 : decode cX5_bears 1 = .ok (.iconst 0, 1) := by decide +kernel
theorem dX5_bears_2 : decode cX5_bears 2 = .ok (.putfield 57, 3) := by decide +kernel
theorem dX5_bears_5 : decode cX5_bears 5 = .ok (.aload_n 0, 1) := by decide +kernel
theorem dX5_bears_6 : decode cX5_bears 6 = .ok (.iload_n 1, 1) := by decide +kernel
theorem dX5_bears_7 : decode cX5_bears 7 = .ok (.invokevirtual 105, 3) := by decide +kernel
theorem dX5_bears_10 : decode cX5_bears 10 = .ok (.ifCond .eq 5, 3) := by decide +kernel
theorem dX5_bears_13 : decode cX5_bears 13 = .ok (.iconst (-1), 1) := by decide +kernel
theorem dX5_bears_14 : decode cX5_bears 14 = .ok (.ireturn, 1) := by decide +kernel
theorem dX5_bears_15 : decode cX5_bears 15 = .ok (.aload_n 0, 1) := by decide +kernel
theorem dX5_bears_16 : decode cX5_bears 16 = .ok (.getfield 32, 3) := by decide +kernel
theorem dX5_bears_19 : decode cX5_bears 19 = .ok (.bipush 12, 2) := by decide +kernel
theorem dX5_bears_21 : decode cX5_bears 21 = .ok (.iaload, 1) := by decide +kernel
theorem dX5_bears_22 : decode cX5_bears 22 = .ok (.iload_n 1, 1) := by decide +kernel
theorem dX5_bears_23 : decode cX5_bears 23 = .ok (.invokestatic 113, 3) := by decide +kernel
theorem dX5_bears_26 : decode cX5_bears 26 = .ok (.ifCond .eq 6, 3) := by decide +kernel
theorem dX5_bears_29 : decode cX5_bears 29 = .ok (.bipush (-3), 2) := by decide +kernel
theorem dX5_bears_31 : decode cX5_bears 31 = .ok (.ireturn, 1) := by decide +kernel
theorem dX5_bears_32 : decode cX5_bears 32 = .ok (.aload_n 0, 1) := by decide +kernel
theorem dX5_bears_33 : decode cX5_bears 33 = .ok (.invokevirtual 148, 3) := by decide +kernel
theorem dX5_bears_36 : decode cX5_bears 36 = .ok (.iconst 1, 1) := by decide +kernel
theorem dX5_bears_37 : decode cX5_bears 37 = .ok (.istore_n 2, 1) := by decide +kernel
theorem dX5_bears_38 : decode cX5_bears 38 = .ok (.aload_n 0, 1) := by decide +kernel
theorem dX5_bears_39 : decode cX5_bears 39 = .ok (.getfield 35, 3) := by decide +kernel
theorem dX5_bears_42 : decode cX5_bears 42 = .ok (.bipush 11, 2) := by decide +kernel
theorem dX5_bears_44 : decode cX5_bears 44 = .ok (.iaload, 1) := by decide +kernel
theorem dX5_bears_45 : decode cX5_bears 45 = .ok (.aload_n 0, 1) := by decide +kernel
theorem dX5_bears_46 : decode cX5_bears 46 = .ok (.getfield 13, 3) := by decide +kernel
theorem dX5_bears_49 : decode cX5_bears 49 = .ok (.if_icmp .ge 32, 3) := by decide +kernel
theorem dX5_bears_52 : decode cX5_bears 52 = .ok (.aload_n 0, 1) := by decide +kernel
theorem dX5_bears_53 : decode cX5_bears 53 = .ok (.aload_n 0, 1) := by decide +kernel
theorem dX5_bears_54 : decode cX5_bears 54 = .ok (.getfield 35, 3) := by decide +kernel
theorem dX5_bears_57 : decode cX5_bears 57 = .ok (.iconst 0, 1) := by decide +kernel
theorem dX5_bears_58 : decode cX5_bears 58 = .ok (.invokevirtual 127, 3) := by decide +kernel
theorem dX5_bears_61 : decode cX5_bears 61 = .ok (.pop, 1) := by decide +kernel
theorem dX5_bears_62 : decode cX5_bears 62 = .ok (.aload_n 0, 1) := by decide +kernel
theorem dX5_bears_63 : decode cX5_bears 63 = .ok (.getfield 121, 3) := by decide +kernel
theorem dX5_bears_66 : decode cX5_bears 66 = .ok (.iload_n 1, 1) := by decide +kernel
theorem dX5_bears_67 : decode cX5_bears 67 = .ok (.invokestatic 113, 3) := by decide +kernel
theorem dX5_bears_70 : decode cX5_bears 70 = .ok (.ifCond .eq 5, 3) := by decide +kernel
theorem dX5_bears_73 : decode cX5_bears 73 = .ok (.iload_n 2, 1) := by decide +kernel
theorem dX5_bears_74 : decode cX5_bears 74 = .ok (.ireturn, 1) := by decide +kernel
theorem dX5_bears_75 : decode cX5_bears 75 = .ok (.iinc 2 1, 3) := by decide +kernel
theorem dX5_bears_78 : decode cX5_bears 78 = .ok (.goto (-40), 3) := by decide +kernel
theorem dX5_bears_81 : decode cX5_bears 81 = .ok (.bipush (-9), 2) := by decide +kernel
theorem dX5_bears_83 : decode cX5_bears 83 = .ok (.ireturn, 1) := by decide +kernel
theorem dX5_ten_0 : decode cX5_ten 0 = .ok (.iconst 1, 1) := by decide +kernel
theorem dX5_ten_1 : decode cX5_ten 1 = .ok (.istore_n 1, 1) := by decide +kernel
theorem dX5_ten_2 : decode cX5_ten 2 = .ok (.iconst 0, 1) := by decide +kernel
theorem dX5_ten_3 : decode cX5_ten 3 = .ok (.istore_n 2, 1) := by decide +kernel
theorem dX5_ten_4 : decode cX5_ten 4 = .ok (.iload_n 2, 1) := by decide +kernel
theorem dX5_ten_5 : decode cX5_ten 5 = .ok (.iload_n 0, 1) := by decide +kernel
theorem dX5_ten_6 : decode cX5_ten 6 = .ok (.if_icmp .ge 14, 3) := by decide +kernel
theorem dX5_ten_9 : decode cX5_ten 9 = .ok (.iload_n 1, 1) := by decide +kernel
theorem dX5_ten_10 : decode cX5_ten 10 = .ok (.bipush 10, 2) := by decide +kernel
theorem dX5_ten_12 : decode cX5_ten 12 = .ok (.imul, 1) := by decide +kernel
theorem dX5_ten_13 : decode cX5_ten 13 = .ok (.istore_n 1, 1) := by decide +kernel
theorem dX5_ten_14 : decode cX5_ten 14 = .ok (.iinc 2 1, 3) := by decide +kernel
theorem dX5_ten_17 : decode cX5_ten 17 = .ok (.goto (-13), 3) := by decide +kernel
theorem dX5_ten_20 : decode cX5_ten 20 = .ok (.iload_n 1, 1) := by decide +kernel
theorem dX5_ten_21 : decode cX5_ten 21 = .ok (.ireturn, 1) := by decide +kernel
set_option maxRecDepth 20000 in
theorem ggX5_still_X5_in : GoodIn wsX5_still wsX5_in := goodIn_r _ [7] (by decide +kernel) (by decide +kernel)
set_option maxRecDepth 20000 in
theorem gX5_still_X5_in : GoodIn wsX5_still (va_wsS RX5 63 yX5_in wsX5_in) := goodIn_app (goodIn_of _ (by decide +kernel)) ggX5_still_X5_in
set_option maxRecDepth 20000 in
theorem ggX5_still_X5_ten : GoodIn wsX5_still wsX5_ten := goodIn_r _ [10] (by decide +kernel) (by decide +kernel)
set_option maxRecDepth 20000 in
theorem gX5_still_X5_ten : GoodIn wsX5_still (va_wsS RX5 190 yX5_ten wsX5_ten) := goodIn_app (goodIn_of _ (by decide +kernel)) ggX5_still_X5_ten
set_option maxRecDepth 20000 in
theorem ggX5_still_X5_has : GoodIn wsX5_still wsX5_has := goodIn_r _ [13] (by decide +kernel) (by decide +kernel)
set_option maxRecDepth 20000 in
theorem gX5_still_X5_has : GoodIn wsX5_still (va_wsS RX5 113 yX5_has wsX5_has) := goodIn_app (goodIn_of _ (by decide +kernel)) ggX5_still_X5_has
set_option maxRecDepth 20000 in
theorem ggX5_still_X5_fraction : GoodIn wsX5_still wsX5_fraction := goodIn_r _ [16, 17, 18, 6, 19] (by decide +kernel) (by decide +kernel)
set_option maxRecDepth 20000 in
theorem gX5_still_X5_fraction : GoodIn wsX5_still (va_wsS RX5 182 yX5_fraction wsX5_fraction) := goodIn_app (goodIn_of _ (by decide +kernel)) ggX5_still_X5_fraction
theorem dX5_still_0 : decode cX5_still 0 = .ok (.aload_n 0, 1) := by decide +kernel
theorem dX5_still_1 : decode cX5_still 1 = .ok (.iconst 0, 1) := by decide +kernel
theorem dX5_still_2 : decode cX5_still 2 = .ok (.putfield 57, 3) := by decide +kernel
theorem dX5_still_5 : decode cX5_still 5 = .ok (.iload_n 1, 1) := by decide +kernel
theorem dX5_still_6 : decode cX5_still 6 = .ok (.i2l, 1) := by decide +kernel
theorem dX5_still_7 : decode cX5_still 7 = .ok (.lconst 1, 1) := by decide +kernel
theorem dX5_still_8 : decode cX5_still 8 = .ok (.ldc2_w 186, 3) := by decide +kernel
theorem dX5_still_11 : decode cX5_still 11 = .ok (.invokestatic 63, 3) := by decide +kernel
theorem dX5_still_14 : decode cX5_still 14 = .ok (.ifCond .eq 43, 3) := by decide +kernel
theorem dX5_still_17 : decode cX5_still 17 = .ok (.iload_n 2, 1) := by decide +kernel
theorem dX5_still_18 : decode cX5_still 18 = .ok (.i2l, 1) := by decide +kernel
theorem dX5_still_19 : decode cX5_still 19 = .ok (.lconst 0, 1) := by decide +kernel
theorem dX5_still_20 : decode cX5_still 20 = .ok (.iconst 1, 1) := by decide +kernel
theorem dX5_still_21 : decode cX5_still 21 = .ok (.iload_n 1, 1) := by decide +kernel
theorem dX5_still_22 : decode cX5_still 22 = .ok (.ishl, 1) := by decide +kernel
theorem dX5_still_23 : decode cX5_still 23 = .ok (.iconst 1, 1) := by decide +kernel
theorem dX5_still_24 : decode cX5_still 24 = .ok (.isub, 1) := by decide +kernel
theorem dX5_still_25 : decode cX5_still 25 = .ok (.i2l, 1) := by decide +kernel
theorem dX5_still_26 : decode cX5_still 26 = .ok (.invokestatic 63, 3) := by decide +kernel
theorem dX5_still_29 : decode cX5_still 29 = .ok (.ifCond .eq 28, 3) := by decide +kernel
theorem dX5_still_32 : decode cX5_still 32 = .ok (.iload_n 3, 1) := by decide +kernel
theorem dX5_still_33 : decode cX5_still 33 = .ok (.i2l, 1) := by decide +kernel
theorem dX5_still_34 : decode cX5_still 34 = .ok (.lconst 0, 1) := by decide +kernel
theorem dX5_still_35 : decode cX5_still 35 = .ok (.ldc2_w 188, 3) := by decide +kernel
theorem dX5_still_38 : decode cX5_still 38 = .ok (.invokestatic 63, 3) := by decide +kernel
theorem dX5_still_41 : decode cX5_still 41 = .ok (.ifCond .eq 16, 3) := by decide +kernel
theorem dX5_still_44 : decode cX5_still 44 = .ok (.iload 4, 2) := by decide +kernel
theorem dX5_still_46 : decode cX5_still 46 = .ok (.i2l, 1) := by decide +kernel
theorem dX5_still_47 : decode cX5_still 47 = .ok (.lconst 0, 1) := by decide +kernel
theorem dX5_still_48 : decode cX5_still 48 = .ok (.ldc2_w 188, 3) := by decide +kernel
theorem dX5_still_51 : decode cX5_still 51 = .ok (.invokestatic 63, 3) := by decide +kernel
theorem dX5_still_54 : decode cX5_still 54 = .ok (.ifCond .ne 6, 3) := by decide +kernel
theorem dX5_still_57 : decode cX5_still 57 = .ok (.bipush (-2), 2) := by decide +kernel
theorem dX5_still_59 : decode cX5_still 59 = .ok (.ireturn, 1) := by decide +kernel
theorem dX5_still_60 : decode cX5_still 60 = .ok (.iconst 1, 1) := by decide +kernel
theorem dX5_still_61 : decode cX5_still 61 = .ok (.istore 6, 2) := by decide +kernel
theorem dX5_still_63 : decode cX5_still 63 = .ok (.iconst 0, 1) := by decide +kernel
theorem dX5_still_64 : decode cX5_still 64 = .ok (.istore 7, 2) := by decide +kernel
theorem dX5_still_66 : decode cX5_still 66 = .ok (.iconst 0, 1) := by decide +kernel
theorem dX5_still_67 : decode cX5_still 67 = .ok (.istore 8, 2) := by decide +kernel
theorem dX5_still_69 : decode cX5_still 69 = .ok (.iload 8, 2) := by decide +kernel
theorem dX5_still_71 : decode cX5_still 71 = .ok (.iload_n 1, 1) := by decide +kernel
theorem dX5_still_72 : decode cX5_still 72 = .ok (.if_icmp .ge 74, 3) := by decide +kernel
theorem dX5_still_75 : decode cX5_still 75 = .ok (.iload_n 2, 1) := by decide +kernel
theorem dX5_still_76 : decode cX5_still 76 = .ok (.iload 8, 2) := by decide +kernel
theorem dX5_still_78 : decode cX5_still 78 = .ok (.ishr, 1) := by decide +kernel
theorem dX5_still_79 : decode cX5_still 79 = .ok (.ifCond .ne 11, 3) := by decide +kernel
theorem dX5_still_82 : decode cX5_still 82 = .ok (.iload 6, 2) := by decide +kernel
theorem dX5_still_84 : decode cX5_still 84 = .ok (.iload 4, 2) := by decide +kernel
theorem dX5_still_86 : decode cX5_still 86 = .ok (.imul, 1) := by decide +kernel
theorem dX5_still_87 : decode cX5_still 87 = .ok (.goto 4, 3) := by decide +kernel
theorem dX5_still_90 : decode cX5_still 90 = .ok (.iconst 0, 1) := by decide +kernel
theorem dX5_still_91 : decode cX5_still 91 = .ok (.istore 9, 2) := by decide +kernel
theorem dX5_still_93 : decode cX5_still 93 = .ok (.iload 7, 2) := by decide +kernel
theorem dX5_still_95 : decode cX5_still 95 = .ok (.iload 9, 2) := by decide +kernel
theorem dX5_still_97 : decode cX5_still 97 = .ok (.iconst 2, 1) := by decide +kernel
theorem dX5_still_98 : decode cX5_still 98 = .ok (.iload_n 1, 1) := by decide +kernel
theorem dX5_still_99 : decode cX5_still 99 = .ok (.iload 8, 2) := by decide +kernel
theorem dX5_still_101 : decode cX5_still 101 = .ok (.isub, 1) := by decide +kernel
theorem dX5_still_102 : decode cX5_still 102 = .ok (.imul, 1) := by decide +kernel
theorem dX5_still_103 : decode cX5_still 103 = .ok (.iconst 1, 1) := by decide +kernel
theorem dX5_still_104 : decode cX5_still 104 = .ok (.isub, 1) := by decide +kernel
theorem dX5_still_105 : decode cX5_still 105 = .ok (.invokestatic 190, 3) := by decide +kernel
theorem dX5_still_108 : decode cX5_still 108 = .ok (.imul, 1) := by decide +kernel
theorem dX5_still_109 : decode cX5_still 109 = .ok (.iadd, 1) := by decide +kernel
theorem dX5_still_110 : decode cX5_still 110 = .ok (.istore 7, 2) := by decide +kernel
theorem dX5_still_112 : decode cX5_still 112 = .ok (.iload 6, 2) := by decide +kernel
theorem dX5_still_114 : decode cX5_still 114 = .ok (.bipush 10, 2) := by decide +kernel
theorem dX5_still_116 : decode cX5_still 116 = .ok (.iload 4, 2) := by decide +kernel
theorem dX5_still_118 : decode cX5_still 118 = .ok (.isub, 1) := by decide +kernel
theorem dX5_still_119 : decode cX5_still 119 = .ok (.iload_n 2, 1) := by decide +kernel
theorem dX5_still_120 : decode cX5_still 120 = .ok (.iload 8, 2) := by decide +kernel
theorem dX5_still_122 : decode cX5_still 122 = .ok (.invokestatic 113, 3) := by decide +kernel
theorem dX5_still_125 : decode cX5_still 125 = .ok (.ifCond .eq 7, 3) := by decide +kernel
theorem dX5_still_128 : decode cX5_still 128 = .ok (.iload_n 3, 1) := by decide +kernel
theorem dX5_still_129 : decode cX5_still 129 = .ok (.goto 7, 3) := by decide +kernel
theorem dX5_still_132 : decode cX5_still 132 = .ok (.bipush 10, 2) := by decide +kernel
theorem dX5_still_134 : decode cX5_still 134 = .ok (.iload_n 3, 1) := by decide +kernel
theorem dX5_still_135 : decode cX5_still 135 = .ok (.isub, 1) := by decide +kernel
theorem dX5_still_136 : decode cX5_still 136 = .ok (.imul, 1) := by decide +kernel
theorem dX5_still_137 : decode cX5_still 137 = .ok (.imul, 1) := by decide +kernel
theorem dX5_still_138 : decode cX5_still 138 = .ok (.istore 6, 2) := by decide +kernel
theorem dX5_still_140 : decode cX5_still 140 = .ok (.iinc 8 1, 3) := by decide +kernel
theorem dX5_still_143 : decode cX5_still 143 = .ok (.goto (-74), 3) := by decide +kernel
theorem dX5_still_146 : decode cX5_still 146 = .ok (.iload 7, 2) := by decide +kernel
theorem dX5_still_148 : decode cX5_still 148 = .ok (.iload 6, 2) := by decide +kernel
theorem dX5_still_150 : decode cX5_still 150 = .ok (.iadd, 1) := by decide +kernel
theorem dX5_still_151 : decode cX5_still 151 = .ok (.istore 7, 2) := by decide +kernel
theorem dX5_still_153 : decode cX5_still 153 = .ok (.iload 7, 2) := by decide +kernel
theorem dX5_still_155 : decode cX5_still 155 = .ok (.ifCond .ne 8, 3) := by decide +kernel
theorem dX5_still_158 : decode cX5_still 158 = .ok (.bipush (-3), 2) := by decide +kernel
theorem dX5_still_160 : decode cX5_still 160 = .ok (.goto 12, 3) := by decide +kernel
theorem dX5_still_163 : decode cX5_still 163 = .ok (.iload 6, 2) := by decide +kernel
theorem dX5_still_165 : decode cX5_still 165 = .ok (.iload 7, 2) := by decide +kernel
theorem dX5_still_167 : decode cX5_still 167 = .ok (.iload 5, 2) := by decide +kernel
theorem dX5_still_169 : decode cX5_still 169 = .ok (.invokestatic 182, 3) := by decide +kernel
theorem dX5_still_172 : decode cX5_still 172 = .ok (.ireturn, 1) := by decide +kernel
set_option maxRecDepth 20000 in
theorem ggX5_pebbles_X5_in : GoodIn wsX5_pebbles wsX5_in := goodIn_r _ [7] (by decide +kernel) (by decide +kernel)
set_option maxRecDepth 20000 in
theorem gX5_pebbles_X5_in : GoodIn wsX5_pebbles (va_wsS RX5 63 yX5_in wsX5_in) := goodIn_app (goodIn_of _ (by decide +kernel)) ggX5_pebbles_X5_in
theorem dX5_pebbles_0 : decode cX5_pebbles 0 = .ok (.aload_n 0, 1) := by decide +kernel
theorem dX5_pebbles_1 : decode cX5_pebbles 1 = .ok (.iconst 0, 1) := by decide +kernel
theorem dX5_pebbles_2 : decode cX5_pebbles 2 = .ok (.putfield 57, 3) := by decide +kernel
theorem dX5_pebbles_5 : decode cX5_pebbles 5 = .ok (.iload_n 1, 1) := by decide +kernel
theorem dX5_pebbles_6 : decode cX5_pebbles 6 = .ok (.i2l, 1) := by decide +kernel
theorem dX5_pebbles_7 : decode cX5_pebbles 7 = .ok (.lconst 1, 1) := by decide +kernel
theorem dX5_pebbles_8 : decode cX5_pebbles 8 = .ok (.ldc2_w 138, 3) := by decide +kernel
theorem dX5_pebbles_11 : decode cX5_pebbles 11 = .ok (.invokestatic 63, 3) := by decide +kernel
theorem dX5_pebbles_14 : decode cX5_pebbles 14 = .ok (.ifCond .eq 15, 3) := by decide +kernel
theorem dX5_pebbles_17 : decode cX5_pebbles 17 = .ok (.iload_n 2, 1) := by decide +kernel
theorem dX5_pebbles_18 : decode cX5_pebbles 18 = .ok (.i2l, 1) := by decide +kernel
theorem dX5_pebbles_19 : decode cX5_pebbles 19 = .ok (.lconst 0, 1) := by decide +kernel
theorem dX5_pebbles_20 : decode cX5_pebbles 20 = .ok (.ldc2_w 193, 3) := by decide +kernel
theorem dX5_pebbles_23 : decode cX5_pebbles 23 = .ok (.invokestatic 63, 3) := by decide +kernel
theorem dX5_pebbles_26 : decode cX5_pebbles 26 = .ok (.ifCond .ne 6, 3) := by decide +kernel
theorem dX5_pebbles_29 : decode cX5_pebbles 29 = .ok (.bipush (-2), 2) := by decide +kernel
theorem dX5_pebbles_31 : decode cX5_pebbles 31 = .ok (.ireturn, 1) := by decide +kernel
theorem dX5_pebbles_32 : decode cX5_pebbles 32 = .ok (.iload_n 2, 1) := by decide +kernel
theorem dX5_pebbles_33 : decode cX5_pebbles 33 = .ok (.ifCond .ne 5, 3) := by decide +kernel
theorem dX5_pebbles_36 : decode cX5_pebbles 36 = .ok (.iconst 0, 1) := by decide +kernel
theorem dX5_pebbles_37 : decode cX5_pebbles 37 = .ok (.ireturn, 1) := by decide +kernel
theorem dX5_pebbles_38 : decode cX5_pebbles 38 = .ok (.iload_n 1, 1) := by decide +kernel
theorem dX5_pebbles_39 : decode cX5_pebbles 39 = .ok (.iconst 1, 1) := by decide +kernel
theorem dX5_pebbles_40 : decode cX5_pebbles 40 = .ok (.if_icmp .ne 6, 3) := by decide +kernel
theorem dX5_pebbles_43 : decode cX5_pebbles 43 = .ok (.bipush (-9), 2) := by decide +kernel
theorem dX5_pebbles_45 : decode cX5_pebbles 45 = .ok (.ireturn, 1) := by decide +kernel
theorem dX5_pebbles_46 : decode cX5_pebbles 46 = .ok (.iload_n 3, 1) := by decide +kernel
theorem dX5_pebbles_47 : decode cX5_pebbles 47 = .ok (.ifCond .eq 7, 3) := by decide +kernel
theorem dX5_pebbles_50 : decode cX5_pebbles 50 = .ok (.iconst 1, 1) := by decide +kernel
theorem dX5_pebbles_51 : decode cX5_pebbles 51 = .ok (.goto 4, 3) := by decide +kernel
theorem dX5_pebbles_54 : decode cX5_pebbles 54 = .ok (.iconst 0, 1) := by decide +kernel
theorem dX5_pebbles_55 : decode cX5_pebbles 55 = .ok (.istore 4, 2) := by decide +kernel
theorem dX5_pebbles_57 : decode cX5_pebbles 57 = .ok (.iconst 1, 1) := by decide +kernel
theorem dX5_pebbles_58 : decode cX5_pebbles 58 = .ok (.istore 5, 2) := by decide +kernel
theorem dX5_pebbles_60 : decode cX5_pebbles 60 = .ok (.iload 5, 2) := by decide +kernel
theorem dX5_pebbles_62 : decode cX5_pebbles 62 = .ok (.iload_n 2, 1) := by decide +kernel
theorem dX5_pebbles_63 : decode cX5_pebbles 63 = .ok (.iconst 1, 1) := by decide +kernel
theorem dX5_pebbles_64 : decode cX5_pebbles 64 = .ok (.iadd, 1) := by decide +kernel
theorem dX5_pebbles_65 : decode cX5_pebbles 65 = .ok (.if_icmp .ge 15, 3) := by decide +kernel
theorem dX5_pebbles_68 : decode cX5_pebbles 68 = .ok (.iinc 4 1, 3) := by decide +kernel
theorem dX5_pebbles_71 : decode cX5_pebbles 71 = .ok (.iload 5, 2) := by decide +kernel
theorem dX5_pebbles_73 : decode cX5_pebbles 73 = .ok (.iload_n 1, 1) := by decide +kernel
theorem dX5_pebbles_74 : decode cX5_pebbles 74 = .ok (.imul, 1) := by decide +kernel
theorem dX5_pebbles_75 : decode cX5_pebbles 75 = .ok (.istore 5, 2) := by decide +kernel
theorem dX5_pebbles_77 : decode cX5_pebbles 77 = .ok (.goto (-17), 3) := by decide +kernel
theorem dX5_pebbles_80 : decode cX5_pebbles 80 = .ok (.iload 4, 2) := by decide +kernel
theorem dX5_pebbles_82 : decode cX5_pebbles 82 = .ok (.ireturn, 1) := by decide +kernel
set_option maxRecDepth 20000 in
theorem ggX5_tell_X5_in : GoodIn wsX5_tell wsX5_in := goodIn_r _ [9] (by decide +kernel) (by decide +kernel)
set_option maxRecDepth 20000 in
theorem gX5_tell_X5_in : GoodIn wsX5_tell (va_wsS RX5 63 yX5_in wsX5_in) := goodIn_app (goodIn_of _ (by decide +kernel)) ggX5_tell_X5_in
theorem dX5_tell_0 : decode cX5_tell 0 = .ok (.aload_n 0, 1) := by decide +kernel
theorem dX5_tell_1 : decode cX5_tell 1 = .ok (.iconst 0, 1) := by decide +kernel
theorem dX5_tell_2 : decode cX5_tell 2 = .ok (.putfield 57, 3) := by decide +kernel
theorem dX5_tell_5 : decode cX5_tell 5 = .ok (.iload_n 1, 1) := by decide +kernel
theorem dX5_tell_6 : decode cX5_tell 6 = .ok (.i2l, 1) := by decide +kernel
theorem dX5_tell_7 : decode cX5_tell 7 = .ok (.lconst 0, 1) := by decide +kernel
theorem dX5_tell_8 : decode cX5_tell 8 = .ok (.ldc2_w 195, 3) := by decide +kernel
theorem dX5_tell_11 : decode cX5_tell 11 = .ok (.invokestatic 63, 3) := by decide +kernel
theorem dX5_tell_14 : decode cX5_tell 14 = .ok (.ifCond .ne 6, 3) := by decide +kernel
theorem dX5_tell_17 : decode cX5_tell 17 = .ok (.bipush (-2), 2) := by decide +kernel
theorem dX5_tell_19 : decode cX5_tell 19 = .ok (.ireturn, 1) := by decide +kernel
theorem dX5_tell_20 : decode cX5_tell 20 = .ok (.aload_n 0, 1) := by decide +kernel
theorem dX5_tell_21 : decode cX5_tell 21 = .ok (.getfield 102, 3) := by decide +kernel
theorem dX5_tell_24 : decode cX5_tell 24 = .ok (.bipush 6, 2) := by decide +kernel
theorem dX5_tell_26 : decode cX5_tell 26 = .ok (.if_icmp .ne 6, 3) := by decide +kernel
theorem dX5_tell_29 : decode cX5_tell 29 = .ok (.bipush (-4), 2) := by decide +kernel
theorem dX5_tell_31 : decode cX5_tell 31 = .ok (.ireturn, 1) := by decide +kernel
theorem dX5_tell_32 : decode cX5_tell 32 = .ok (.aload_n 0, 1) := by decide +kernel
theorem dX5_tell_33 : decode cX5_tell 33 = .ok (.getfield 48, 3) := by decide +kernel
theorem dX5_tell_36 : decode cX5_tell 36 = .ok (.aload_n 0, 1) := by decide +kernel
theorem dX5_tell_37 : decode cX5_tell 37 = .ok (.getfield 102, 3) := by decide +kernel
theorem dX5_tell_40 : decode cX5_tell 40 = .ok (.iload_n 1, 1) := by decide +kernel
theorem dX5_tell_41 : decode cX5_tell 41 = .ok (.iastore, 1) := by decide +kernel
theorem dX5_tell_42 : decode cX5_tell 42 = .ok (.aload_n 0, 1) := by decide +kernel
theorem dX5_tell_43 : decode cX5_tell 43 = .ok (.getfield 51, 3) := by decide +kernel
theorem dX5_tell_46 : decode cX5_tell 46 = .ok (.aload_n 0, 1) := by decide +kernel
theorem dX5_tell_47 : decode cX5_tell 47 = .ok (.getfield 102, 3) := by decide +kernel
theorem dX5_tell_50 : decode cX5_tell 50 = .ok (.iload_n 2, 1) := by decide +kernel
theorem dX5_tell_51 : decode cX5_tell 51 = .ok (.bastore, 1) := by decide +kernel
theorem dX5_tell_52 : decode cX5_tell 52 = .ok (.aload_n 0, 1) := by decide +kernel
theorem dX5_tell_53 : decode cX5_tell 53 = .ok (.dup, 1) := by decide +kernel
theorem dX5_tell_54 : decode cX5_tell 54 = .ok (.getfield 102, 3) := by decide +kernel
theorem dX5_tell_57 : decode cX5_tell 57 = .ok (.iconst 1, 1) := by decide +kernel
theorem dX5_tell_58 : decode cX5_tell 58 = .ok (.iadd, 1) := by decide +kernel
theorem dX5_tell_59 : decode cX5_tell 59 = .ok (.putfield 102, 3) := by decide +kernel
theorem dX5_tell_62 : decode cX5_tell 62 = .ok (.aload_n 0, 1) := by decide +kernel
theorem dX5_tell_63 : decode cX5_tell 63 = .ok (.getfield 102, 3) := by decide +kernel
theorem dX5_tell_66 : decode cX5_tell 66 = .ok (.ireturn, 1) := by decide +kernel
theorem dX5_untell_0 : decode cX5_untell 0 = .ok (.aload_n 0, 1) := by decide +kernel
theorem dX5_untell_1 : decode cX5_untell 1 = .ok (.iconst 0, 1) := by decide +kernel
theorem dX5_untell_2 : decode cX5_untell 2 = .ok (.putfield 57, 3) := by decide +kernel
theorem dX5_untell_5 : decode cX5_untell 5 = .ok (.aload_n 0, 1) := by decide +kernel
theorem dX5_untell_6 : decode cX5_untell 6 = .ok (.getfield 102, 3) := by decide +kernel
theorem dX5_untell_9 : decode cX5_untell 9 = .ok (.istore_n 1, 1) := by decide +kernel
theorem dX5_untell_10 : decode cX5_untell 10 = .ok (.aload_n 0, 1) := by decide +kernel
theorem dX5_untell_11 : decode cX5_untell 11 = .ok (.iconst 0, 1) := by decide +kernel
theorem dX5_untell_12 : decode cX5_untell 12 = .ok (.putfield 102, 3) := by decide +kernel
theorem dX5_untell_15 : decode cX5_untell 15 = .ok (.iload_n 1, 1) := by decide +kernel
theorem dX5_untell_16 : decode cX5_untell 16 = .ok (.ireturn, 1) := by decide +kernel
theorem dX5_letGo_0 : decode cX5_letGo 0 = .ok (.aload_n 0, 1) := by decide +kernel
theorem dX5_letGo_1 : decode cX5_letGo 1 = .ok (.iconst 0, 1) := by decide +kernel
theorem dX5_letGo_2 : decode cX5_letGo 2 = .ok (.putfield 57, 3) := by decide +kernel
theorem dX5_letGo_5 : decode cX5_letGo 5 = .ok (.iconst 0, 1) := by decide +kernel
theorem dX5_letGo_6 : decode cX5_letGo 6 = .ok (.istore_n 2, 1) := by decide +kernel
theorem dX5_letGo_7 : decode cX5_letGo 7 = .ok (.iconst 0, 1) := by decide +kernel
theorem dX5_letGo_8 : decode cX5_letGo 8 = .ok (.istore_n 3, 1) := by decide +kernel
theorem dX5_letGo_9 : decode cX5_letGo 9 = .ok (.iload_n 3, 1) := by decide +kernel
theorem dX5_letGo_10 : decode cX5_letGo 10 = .ok (.bipush 9, 2) := by decide +kernel
theorem dX5_letGo_12 : decode cX5_letGo 12 = .ok (.if_icmp .gt 102, 3) := by decide +kernel
theorem dX5_letGo_15 : decode cX5_letGo 15 = .ok (.iconst 1, 1) := by decide +kernel
theorem dX5_letGo_16 : decode cX5_letGo 16 = .ok (.istore 4, 2) := by decide +kernel
theorem dX5_letGo_18 : decode cX5_letGo 18 = .ok (.iconst 0, 1) := by decide +kernel
theorem dX5_letGo_19 : decode cX5_letGo 19 = .ok (.istore 5, 2) := by decide +kernel
theorem dX5_letGo_21 : decode cX5_letGo 21 = .ok (.iload 5, 2) := by decide +kernel
theorem dX5_letGo_23 : decode cX5_letGo 23 = .ok (.aload_n 0, 1) := by decide +kernel
theorem dX5_letGo_24 : decode cX5_letGo 24 = .ok (.getfield 102, 3) := by decide +kernel
theorem dX5_letGo_27 : decode cX5_letGo 27 = .ok (.if_icmp .ge 66, 3) := by decide +kernel
theorem dX5_letGo_30 : decode cX5_letGo 30 = .ok (.aload_n 0, 1) := by decide +kernel
theorem dX5_letGo_31 : decode cX5_letGo 31 = .ok (.getfield 48, 3) := by decide +kernel
theorem dX5_letGo_34 : decode cX5_letGo 34 = .ok (.iload 5, 2) := by decide +kernel
theorem dX5_letGo_36 : decode cX5_letGo 36 = .ok (.iaload, 1) := by decide +kernel
theorem dX5_letGo_37 : decode cX5_letGo 37 = .ok (.iload_n 3, 1) := by decide +kernel
theorem dX5_letGo_38 : decode cX5_letGo 38 = .ok (.if_icmp .ge 7, 3) := by decide +kernel
theorem dX5_letGo_41 : decode cX5_letGo 41 = .ok (.iconst 1, 1) := by decide +kernel
theorem dX5_letGo_42 : decode cX5_letGo 42 = .ok (.goto 4, 3) := by decide +kernel
theorem dX5_letGo_45 : decode cX5_letGo 45 = .ok (.iconst 0, 1) := by decide +kernel
theorem dX5_letGo_46 : decode cX5_letGo 46 = .ok (.istore 6, 2) := by decide +kernel
theorem dX5_letGo_48 : decode cX5_letGo 48 = .ok (.iload 4, 2) := by decide +kernel
theorem dX5_letGo_50 : decode cX5_letGo 50 = .ok (.ifCond .eq 34, 3) := by decide +kernel
theorem dX5_letGo_53 : decode cX5_letGo 53 = .ok (.aload_n 0, 1) := by decide +kernel
theorem dX5_letGo_54 : decode cX5_letGo 54 = .ok (.getfield 51, 3) := by decide +kernel
theorem dX5_letGo_57 : decode cX5_letGo 57 = .ok (.iload 5, 2) := by decide +kernel
theorem dX5_letGo_59 : decode cX5_letGo 59 = .ok (.baload, 1) := by decide +kernel
theorem dX5_letGo_60 : decode cX5_letGo 60 = .ok (.ifCond .eq 11, 3) := by decide +kernel
theorem dX5_letGo_63 : decode cX5_letGo 63 = .ok (.iload 6, 2) := by decide +kernel
theorem dX5_letGo_65 : decode cX5_letGo 65 = .ok (.ifCond .eq 19, 3) := by decide +kernel
theorem dX5_letGo_68 : decode cX5_letGo 68 = .ok (.goto 12, 3) := by decide +kernel
theorem dX5_letGo_71 : decode cX5_letGo 71 = .ok (.iload 6, 2) := by decide +kernel
theorem dX5_letGo_73 : decode cX5_letGo 73 = .ok (.ifCond .eq 7, 3) := by decide +kernel
theorem dX5_letGo_76 : decode cX5_letGo 76 = .ok (.iload_n 1, 1) := by decide +kernel
theorem dX5_letGo_77 : decode cX5_letGo 77 = .ok (.ifCond .ne 7, 3) := by decide +kernel
theorem dX5_letGo_80 : decode cX5_letGo 80 = .ok (.iconst 1, 1) := by decide +kernel
theorem dX5_letGo_81 : decode cX5_letGo 81 = .ok (.goto 4, 3) := by decide +kernel
theorem dX5_letGo_84 : decode cX5_letGo 84 = .ok (.iconst 0, 1) := by decide +kernel
theorem dX5_letGo_85 : decode cX5_letGo 85 = .ok (.istore 4, 2) := by decide +kernel
theorem dX5_letGo_87 : decode cX5_letGo 87 = .ok (.iinc 5 1, 3) := by decide +kernel
theorem dX5_letGo_90 : decode cX5_letGo 90 = .ok (.goto (-69), 3) := by decide +kernel
theorem dX5_letGo_93 : decode cX5_letGo 93 = .ok (.iload_n 2, 1) := by decide +kernel
theorem dX5_letGo_94 : decode cX5_letGo 94 = .ok (.iload 4, 2) := by decide +kernel
theorem dX5_letGo_96 : decode cX5_letGo 96 = .ok (.ifCond .eq 9, 3) := by decide +kernel
theorem dX5_letGo_99 : decode cX5_letGo 99 = .ok (.iconst 1, 1) := by decide +kernel
theorem dX5_letGo_100 : decode cX5_letGo 100 = .ok (.iload_n 3, 1) := by decide +kernel
theorem dX5_letGo_101 : decode cX5_letGo 101 = .ok (.ishl, 1) := by decide +kernel
theorem dX5_letGo_102 : decode cX5_letGo 102 = .ok (.goto 4, 3) := by decide +kernel
theorem dX5_letGo_105 : decode cX5_letGo 105 = .ok (.iconst 0, 1) := by decide +kernel
theorem dX5_letGo_106 : decode cX5_letGo 106 = .ok (.ior, 1) := by decide +kernel
theorem dX5_letGo_107 : decode cX5_letGo 107 = .ok (.istore_n 2, 1) := by decide +kernel
theorem dX5_letGo_108 : decode cX5_letGo 108 = .ok (.iinc 3 1, 3) := by decide +kernel
theorem dX5_letGo_111 : decode cX5_letGo 111 = .ok (.goto (-102), 3) := by decide +kernel
theorem dX5_letGo_114 : decode cX5_letGo 114 = .ok (.iload_n 2, 1) := by decide +kernel
theorem dX5_letGo_115 : decode cX5_letGo 115 = .ok (.ireturn, 1) := by decide +kernel
set_option maxRecDepth 20000 in
theorem ggX5_link_X5_in : GoodIn wsX5_link wsX5_in := goodIn_r _ [8] (by decide +kernel) (by decide +kernel)
set_option maxRecDepth 20000 in
theorem gX5_link_X5_in : GoodIn wsX5_link (va_wsS RX5 63 yX5_in wsX5_in) := goodIn_app (goodIn_of _ (by decide +kernel)) ggX5_link_X5_in
set_option maxRecDepth 20000 in
theorem ggX5_link_X5_has : GoodIn wsX5_link wsX5_has := goodIn_r _ [11] (by decide +kernel) (by decide +kernel)
set_option maxRecDepth 20000 in
theorem gX5_link_X5_has : GoodIn wsX5_link (va_wsS RX5 113 yX5_has wsX5_has) := goodIn_app (goodIn_of _ (by decide +kernel)) ggX5_link_X5_has
set_option maxRecDepth 20000 in
theorem ggX5_link_X5_ten : GoodIn wsX5_link wsX5_ten := goodIn_r _ [14] (by decide +kernel) (by decide +kernel)
set_option maxRecDepth 20000 in
theorem gX5_link_X5_ten : GoodIn wsX5_link (va_wsS RX5 190 yX5_ten wsX5_ten) := goodIn_app (goodIn_of _ (by decide +kernel)) ggX5_link_X5_ten
set_option maxRecDepth 20000 in
theorem ggX5_link_X5_fraction : GoodIn wsX5_link wsX5_fraction := goodIn_r _ [17, 18, 19, 7, 20] (by decide +kernel) (by decide +kernel)
set_option maxRecDepth 20000 in
theorem gX5_link_X5_fraction : GoodIn wsX5_link (va_wsS RX5 182 yX5_fraction wsX5_fraction) := goodIn_app (goodIn_of _ (by decide +kernel)) ggX5_link_X5_fraction
theorem dX5_link_0 : decode cX5_link 0 = .ok (.aload_n 0, 1) := by decide +kernel
theorem dX5_link_1 : decode cX5_link 1 = .ok (.iconst 0, 1) := by decide +kernel
theorem dX5_link_2 : decode cX5_link 2 = .ok (.putfield 57, 3) := by decide +kernel
theorem dX5_link_5 : decode cX5_link 5 = .ok (.iload_n 1, 1) := by decide +kernel
theorem dX5_link_6 : decode cX5_link 6 = .ok (.i2l, 1) := by decide +kernel
theorem dX5_link_7 : decode cX5_link 7 = .ok (.lconst 0, 1) := by decide +kernel
theorem dX5_link_8 : decode cX5_link 8 = .ok (.ldc2_w 138, 3) := by decide +kernel
theorem dX5_link_11 : decode cX5_link 11 = .ok (.invokestatic 63, 3) := by decide +kernel
theorem dX5_link_14 : decode cX5_link 14 = .ok (.ifCond .eq 27, 3) := by decide +kernel
theorem dX5_link_17 : decode cX5_link 17 = .ok (.iload_n 2, 1) := by decide +kernel
theorem dX5_link_18 : decode cX5_link 18 = .ok (.i2l, 1) := by decide +kernel
theorem dX5_link_19 : decode cX5_link 19 = .ok (.lconst 0, 1) := by decide +kernel
theorem dX5_link_20 : decode cX5_link 20 = .ok (.ldc2_w 188, 3) := by decide +kernel
theorem dX5_link_23 : decode cX5_link 23 = .ok (.invokestatic 63, 3) := by decide +kernel
theorem dX5_link_26 : decode cX5_link 26 = .ok (.ifCond .eq 15, 3) := by decide +kernel
theorem dX5_link_29 : decode cX5_link 29 = .ok (.iload_n 3, 1) := by decide +kernel
theorem dX5_link_30 : decode cX5_link 30 = .ok (.i2l, 1) := by decide +kernel
theorem dX5_link_31 : decode cX5_link 31 = .ok (.lconst 0, 1) := by decide +kernel
theorem dX5_link_32 : decode cX5_link 32 = .ok (.ldc2_w 197, 3) := by decide +kernel
theorem dX5_link_35 : decode cX5_link 35 = .ok (.invokestatic 63, 3) := by decide +kernel
theorem dX5_link_38 : decode cX5_link 38 = .ok (.ifCond .ne 6, 3) := by decide +kernel
theorem dX5_link_41 : decode cX5_link 41 = .ok (.bipush (-2), 2) := by decide +kernel
theorem dX5_link_43 : decode cX5_link 43 = .ok (.ireturn, 1) := by decide +kernel
theorem dX5_link_44 : decode cX5_link 44 = .ok (.iconst 0, 1) := by decide +kernel
theorem dX5_link_45 : decode cX5_link 45 = .ok (.istore 5, 2) := by decide +kernel
theorem dX5_link_47 : decode cX5_link 47 = .ok (.iconst 0, 1) := by decide +kernel
theorem dX5_link_48 : decode cX5_link 48 = .ok (.istore 6, 2) := by decide +kernel
theorem dX5_link_50 : decode cX5_link 50 = .ok (.iload 6, 2) := by decide +kernel
theorem dX5_link_52 : decode cX5_link 52 = .ok (.iconst 1, 1) := by decide +kernel
theorem dX5_link_53 : decode cX5_link 53 = .ok (.iload_n 3, 1) := by decide +kernel
theorem dX5_link_54 : decode cX5_link 54 = .ok (.ishl, 1) := by decide +kernel
theorem dX5_link_55 : decode cX5_link 55 = .ok (.if_icmp .ge 110, 3) := by decide +kernel
theorem dX5_link_58 : decode cX5_link 58 = .ok (.iconst 1, 1) := by decide +kernel
theorem dX5_link_59 : decode cX5_link 59 = .ok (.istore 7, 2) := by decide +kernel
theorem dX5_link_61 : decode cX5_link 61 = .ok (.iconst 0, 1) := by decide +kernel
theorem dX5_link_62 : decode cX5_link 62 = .ok (.istore 8, 2) := by decide +kernel
theorem dX5_link_64 : decode cX5_link 64 = .ok (.iconst 1, 1) := by decide +kernel
theorem dX5_link_65 : decode cX5_link 65 = .ok (.istore 9, 2) := by decide +kernel
theorem dX5_link_67 : decode cX5_link 67 = .ok (.iconst 0, 1) := by decide +kernel
theorem dX5_link_68 : decode cX5_link 68 = .ok (.istore 10, 2) := by decide +kernel
theorem dX5_link_70 : decode cX5_link 70 = .ok (.iload 10, 2) := by decide +kernel
theorem dX5_link_72 : decode cX5_link 72 = .ok (.iload_n 3, 1) := by decide +kernel
theorem dX5_link_73 : decode cX5_link 73 = .ok (.if_icmp .ge 70, 3) := by decide +kernel
theorem dX5_link_76 : decode cX5_link 76 = .ok (.iload 7, 2) := by decide +kernel
theorem dX5_link_78 : decode cX5_link 78 = .ok (.iload 6, 2) := by decide +kernel
theorem dX5_link_80 : decode cX5_link 80 = .ok (.iload 10, 2) := by decide +kernel
theorem dX5_link_82 : decode cX5_link 82 = .ok (.invokestatic 113, 3) := by decide +kernel
theorem dX5_link_85 : decode cX5_link 85 = .ok (.ifCond .eq 7, 3) := by decide +kernel
theorem dX5_link_88 : decode cX5_link 88 = .ok (.iload_n 2, 1) := by decide +kernel
theorem dX5_link_89 : decode cX5_link 89 = .ok (.goto 7, 3) := by decide +kernel
theorem dX5_link_92 : decode cX5_link 92 = .ok (.bipush 10, 2) := by decide +kernel
theorem dX5_link_94 : decode cX5_link 94 = .ok (.iload_n 2, 1) := by decide +kernel
theorem dX5_link_95 : decode cX5_link 95 = .ok (.isub, 1) := by decide +kernel
theorem dX5_link_96 : decode cX5_link 96 = .ok (.imul, 1) := by decide +kernel
theorem dX5_link_97 : decode cX5_link 97 = .ok (.istore 7, 2) := by decide +kernel
theorem dX5_link_99 : decode cX5_link 99 = .ok (.iload 6, 2) := by decide +kernel
theorem dX5_link_101 : decode cX5_link 101 = .ok (.iload 10, 2) := by decide +kernel
theorem dX5_link_103 : decode cX5_link 103 = .ok (.invokestatic 113, 3) := by decide +kernel
theorem dX5_link_106 : decode cX5_link 106 = .ok (.ifCond .eq 7, 3) := by decide +kernel
theorem dX5_link_109 : decode cX5_link 109 = .ok (.iconst 0, 1) := by decide +kernel
theorem dX5_link_110 : decode cX5_link 110 = .ok (.goto 7, 3) := by decide +kernel
theorem dX5_link_113 : decode cX5_link 113 = .ok (.iload 8, 2) := by decide +kernel
theorem dX5_link_115 : decode cX5_link 115 = .ok (.iconst 1, 1) := by decide +kernel
theorem dX5_link_116 : decode cX5_link 116 = .ok (.iadd, 1) := by decide +kernel
theorem dX5_link_117 : decode cX5_link 117 = .ok (.istore 8, 2) := by decide +kernel
theorem dX5_link_119 : decode cX5_link 119 = .ok (.iload 9, 2) := by decide +kernel
theorem dX5_link_121 : decode cX5_link 121 = .ok (.ifCond .eq 13, 3) := by decide +kernel
theorem dX5_link_124 : decode cX5_link 124 = .ok (.iload 8, 2) := by decide +kernel
theorem dX5_link_126 : decode cX5_link 126 = .ok (.iload_n 1, 1) := by decide +kernel
theorem dX5_link_127 : decode cX5_link 127 = .ok (.if_icmp .gt 7, 3) := by decide +kernel
theorem dX5_link_130 : decode cX5_link 130 = .ok (.iconst 1, 1) := by decide +kernel
theorem dX5_link_131 : decode cX5_link 131 = .ok (.goto 4, 3) := by decide +kernel
theorem dX5_link_134 : decode cX5_link 134 = .ok (.iconst 0, 1) := by decide +kernel
theorem dX5_link_135 : decode cX5_link 135 = .ok (.istore 9, 2) := by decide +kernel
theorem dX5_link_137 : decode cX5_link 137 = .ok (.iinc 10 1, 3) := by decide +kernel
theorem dX5_link_140 : decode cX5_link 140 = .ok (.goto (-70), 3) := by decide +kernel
theorem dX5_link_143 : decode cX5_link 143 = .ok (.iload 5, 2) := by decide +kernel
theorem dX5_link_145 : decode cX5_link 145 = .ok (.iload 9, 2) := by decide +kernel
theorem dX5_link_147 : decode cX5_link 147 = .ok (.ifCond .eq 8, 3) := by decide +kernel
theorem dX5_link_150 : decode cX5_link 150 = .ok (.iload 7, 2) := by decide +kernel
theorem dX5_link_152 : decode cX5_link 152 = .ok (.goto 4, 3) := by decide +kernel
theorem dX5_link_155 : decode cX5_link 155 = .ok (.iconst 0, 1) := by decide +kernel
theorem dX5_link_156 : decode cX5_link 156 = .ok (.iadd, 1) := by decide +kernel
theorem dX5_link_157 : decode cX5_link 157 = .ok (.istore 5, 2) := by decide +kernel
theorem dX5_link_159 : decode cX5_link 159 = .ok (.iinc 6 1, 3) := by decide +kernel
theorem dX5_link_162 : decode cX5_link 162 = .ok (.goto (-112), 3) := by decide +kernel
theorem dX5_link_165 : decode cX5_link 165 = .ok (.iload 5, 2) := by decide +kernel
theorem dX5_link_167 : decode cX5_link 167 = .ok (.iload_n 3, 1) := by decide +kernel
theorem dX5_link_168 : decode cX5_link 168 = .ok (.invokestatic 190, 3) := by decide +kernel
theorem dX5_link_171 : decode cX5_link 171 = .ok (.iload 4, 2) := by decide +kernel
theorem dX5_link_173 : decode cX5_link 173 = .ok (.invokestatic 182, 3) := by decide +kernel
theorem dX5_link_176 : decode cX5_link 176 = .ok (.ireturn, 1) := by decide +kernel
theorem dX5_seed_0 : decode cX5_seed 0 = .ok (.aload_n 0, 1) := by decide +kernel
theorem dX5_seed_1 : decode cX5_seed 1 = .ok (.iconst 0, 1) := by decide +kernel
theorem dX5_seed_2 : decode cX5_seed 2 = .ok (.putfield 57, 3) := by decide +kernel
theorem dX5_seed_5 : decode cX5_seed 5 = .ok (.aload_n 0, 1) := by decide +kernel
theorem dX5_seed_6 : decode cX5_seed 6 = .ok (.getfield 199, 3) := by decide +kernel
theorem dX5_seed_9 : decode cX5_seed 9 = .ok (.lstore_n 3, 1) := by decide +kernel
theorem dX5_seed_10 : decode cX5_seed 10 = .ok (.aload_n 0, 1) := by decide +kernel
theorem dX5_seed_11 : decode cX5_seed 11 = .ok (.lload_n 1, 1) := by decide +kernel
theorem dX5_seed_12 : decode cX5_seed 12 = .ok (.putfield 199, 3) := by decide +kernel
theorem dX5_seed_15 : decode cX5_seed 15 = .ok (.lload_n 3, 1) := by decide +kernel
theorem dX5_seed_16 : decode cX5_seed 16 = .ok (.lreturn, 1) := by decide +kernel
set_option maxRecDepth 20000 in
theorem ggX5_gorges_X5_in : GoodIn wsX5_gorges wsX5_in := goodIn_r _ [12] (by decide +kernel) (by decide +kernel)
set_option maxRecDepth 20000 in
theorem gX5_gorges_X5_in : GoodIn wsX5_gorges (va_wsS RX5 63 yX5_in wsX5_in) := goodIn_app (goodIn_of _ (by decide +kernel)) ggX5_gorges_X5_in
set_option maxRecDepth 20000 in
theorem ggX5_gorges_X5_begin : GoodIn wsX5_gorges wsX5_begin := goodIn_r _ [16, 3, 17, 33, 34, 35, 36, 37, 38, 39, 40, 41, 42, 43, 44, 45, 46, 47, 48, 49, 50, 51, 52, 53, 54, 55, 56, 57, 58, 59, 60] (by decide +kernel) (by decide +kernel)
set_option maxRecDepth 20000 in
theorem gX5_gorges_X5_begin : GoodIn wsX5_gorges (wsV RX5 148 RX5 yX5_begin wsX5_begin) := goodIn_app (goodIn_of _ (by decide +kernel)) ggX5_gorges_X5_begin
set_option maxRecDepth 20000 in
theorem ggX5_gorges_X5_goMinute : GoodIn wsX5_gorges wsX5_goMinute := goodIn_r _ [21, 22, 23, 24, 25, 26, 27, 11, 28, 29, 30, 31, 32, 33, 34, 35, 36, 37, 38, 39, 40, 41, 42, 43, 44, 45, 46, 47, 48, 49, 50, 51, 52, 53, 54, 55, 56, 57, 58, 59, 60] (by decide +kernel) (by decide +kernel)
set_option maxRecDepth 20000 in
theorem gX5_gorges_X5_goMinute : GoodIn wsX5_gorges (wsV RX5 127 RX5 yX5_goMinute wsX5_goMinute) := goodIn_app (goodIn_of _ (by decide +kernel)) ggX5_gorges_X5_goMinute
theorem dX5_gorges_0 : decode cX5_gorges 0 = .ok (.aload_n 0, 1) := by decide +kernel
theorem dX5_gorges_1 : decode cX5_gorges 1 = .ok (.iconst 0, 1) := by decide +kernel
theorem dX5_gorges_2 : decode cX5_gorges 2 = .ok (.putfield 57, 3) := by decide +kernel
theorem dX5_gorges_5 : decode cX5_gorges 5 = .ok (.iload_n 1, 1) := by decide +kernel
theorem dX5_gorges_6 : decode cX5_gorges 6 = .ok (.i2l, 1) := by decide +kernel
theorem dX5_gorges_7 : decode cX5_gorges 7 = .ok (.lconst 1, 1) := by decide +kernel
theorem dX5_gorges_8 : decode cX5_gorges 8 = .ok (.ldc2_w 203, 3) := by decide +kernel
theorem dX5_gorges_11 : decode cX5_gorges 11 = .ok (.invokestatic 63, 3) := by decide +kernel
theorem dX5_gorges_14 : decode cX5_gorges 14 = .ok (.ifCond .ne 6, 3) := by decide +kernel
theorem dX5_gorges_17 : decode cX5_gorges 17 = .ok (.bipush (-2), 2) := by decide +kernel
theorem dX5_gorges_19 : decode cX5_gorges 19 = .ok (.ireturn, 1) := by decide +kernel
theorem dX5_gorges_20 : decode cX5_gorges 20 = .ok (.iconst 0, 1) := by decide +kernel
theorem dX5_gorges_21 : decode cX5_gorges 21 = .ok (.istore_n 2, 1) := by decide +kernel
theorem dX5_gorges_22 : decode cX5_gorges 22 = .ok (.iconst 0, 1) := by decide +kernel
theorem dX5_gorges_23 : decode cX5_gorges 23 = .ok (.istore_n 3, 1) := by decide +kernel
theorem dX5_gorges_24 : decode cX5_gorges 24 = .ok (.iload_n 3, 1) := by decide +kernel
theorem dX5_gorges_25 : decode cX5_gorges 25 = .ok (.iload_n 1, 1) := by decide +kernel
theorem dX5_gorges_26 : decode cX5_gorges 26 = .ok (.if_icmp .ge 76, 3) := by decide +kernel
theorem dX5_gorges_29 : decode cX5_gorges 29 = .ok (.aload_n 0, 1) := by decide +kernel
theorem dX5_gorges_30 : decode cX5_gorges 30 = .ok (.invokevirtual 148, 3) := by decide +kernel
theorem dX5_gorges_33 : decode cX5_gorges 33 = .ok (.aload_n 0, 1) := by decide +kernel
theorem dX5_gorges_34 : decode cX5_gorges 34 = .ok (.getfield 35, 3) := by decide +kernel
theorem dX5_gorges_37 : decode cX5_gorges 37 = .ok (.bipush 11, 2) := by decide +kernel
theorem dX5_gorges_39 : decode cX5_gorges 39 = .ok (.iaload, 1) := by decide +kernel
theorem dX5_gorges_40 : decode cX5_gorges 40 = .ok (.aload_n 0, 1) := by decide +kernel
theorem dX5_gorges_41 : decode cX5_gorges 41 = .ok (.getfield 13, 3) := by decide +kernel
theorem dX5_gorges_44 : decode cX5_gorges 44 = .ok (.if_icmp .ge 43, 3) := by decide +kernel
theorem dX5_gorges_47 : decode cX5_gorges 47 = .ok (.aload_n 0, 1) := by decide +kernel
theorem dX5_gorges_48 : decode cX5_gorges 48 = .ok (.aload_n 0, 1) := by decide +kernel
theorem dX5_gorges_49 : decode cX5_gorges 49 = .ok (.getfield 199, 3) := by decide +kernel
theorem dX5_gorges_52 : decode cX5_gorges 52 = .ok (.ldc2_w 205, 3) := by decide +kernel
theorem dX5_gorges_55 : decode cX5_gorges 55 = .ok (.lmul, 1) := by decide +kernel
theorem dX5_gorges_56 : decode cX5_gorges 56 = .ok (.ldc2_w 207, 3) := by decide +kernel
theorem dX5_gorges_59 : decode cX5_gorges 59 = .ok (.ladd, 1) := by decide +kernel
theorem dX5_gorges_60 : decode cX5_gorges 60 = .ok (.putfield 199, 3) := by decide +kernel
theorem dX5_gorges_63 : decode cX5_gorges 63 = .ok (.aload_n 0, 1) := by decide +kernel
theorem dX5_gorges_64 : decode cX5_gorges 64 = .ok (.aload_n 0, 1) := by decide +kernel
theorem dX5_gorges_65 : decode cX5_gorges 65 = .ok (.getfield 35, 3) := by decide +kernel
theorem dX5_gorges_68 : decode cX5_gorges 68 = .ok (.aload_n 0, 1) := by decide +kernel
theorem dX5_gorges_69 : decode cX5_gorges 69 = .ok (.getfield 199, 3) := by decide +kernel
theorem dX5_gorges_72 : decode cX5_gorges 72 = .ok (.bipush 33, 2) := by decide +kernel
theorem dX5_gorges_74 : decode cX5_gorges 74 = .ok (.lushr, 1) := by decide +kernel
theorem dX5_gorges_75 : decode cX5_gorges 75 = .ok (.ldc2_w 209, 3) := by decide +kernel
theorem dX5_gorges_78 : decode cX5_gorges 78 = .ok (.lrem, 1) := by decide +kernel
theorem dX5_gorges_79 : decode cX5_gorges 79 = .ok (.l2i, 1) := by decide +kernel
theorem dX5_gorges_80 : decode cX5_gorges 80 = .ok (.invokevirtual 127, 3) := by decide +kernel
theorem dX5_gorges_83 : decode cX5_gorges 83 = .ok (.pop, 1) := by decide +kernel
theorem dX5_gorges_84 : decode cX5_gorges 84 = .ok (.goto (-51), 3) := by decide +kernel
theorem dX5_gorges_87 : decode cX5_gorges 87 = .ok (.iload_n 2, 1) := by decide +kernel
theorem dX5_gorges_88 : decode cX5_gorges 88 = .ok (.aload_n 0, 1) := by decide +kernel
theorem dX5_gorges_89 : decode cX5_gorges 89 = .ok (.getfield 35, 3) := by decide +kernel
theorem dX5_gorges_92 : decode cX5_gorges 92 = .ok (.iconst 5, 1) := by decide +kernel
theorem dX5_gorges_93 : decode cX5_gorges 93 = .ok (.iaload, 1) := by decide +kernel
theorem dX5_gorges_94 : decode cX5_gorges 94 = .ok (.iadd, 1) := by decide +kernel
theorem dX5_gorges_95 : decode cX5_gorges 95 = .ok (.istore_n 2, 1) := by decide +kernel
theorem dX5_gorges_96 : decode cX5_gorges 96 = .ok (.iinc 3 1, 3) := by decide +kernel
theorem dX5_gorges_99 : decode cX5_gorges 99 = .ok (.goto (-75), 3) := by decide +kernel
theorem dX5_gorges_102 : decode cX5_gorges 102 = .ok (.iload_n 2, 1) := by decide +kernel
theorem dX5_gorges_103 : decode cX5_gorges 103 = .ok (.ireturn, 1) := by decide +kernel
set_option maxRecDepth 20000 in
theorem ggX5_keep_X5_in : GoodIn wsX5_keep wsX5_in := goodIn_r _ [8] (by decide +kernel) (by decide +kernel)
set_option maxRecDepth 20000 in
theorem gX5_keep_X5_in : GoodIn wsX5_keep (va_wsS RX5 63 yX5_in wsX5_in) := goodIn_app (goodIn_of _ (by decide +kernel)) ggX5_keep_X5_in
theorem dX5_keep_0 : decode cX5_keep 0 = .ok (.aload_n 0, 1) := by decide +kernel
theorem dX5_keep_1 : decode cX5_keep 1 = .ok (.iconst 0, 1) := by decide +kernel
theorem dX5_keep_2 : decode cX5_keep 2 = .ok (.putfield 57, 3) := by decide +kernel
theorem dX5_keep_5 : decode cX5_keep 5 = .ok (.iload_n 1, 1) := by decide +kernel
theorem dX5_keep_6 : decode cX5_keep 6 = .ok (.i2l, 1) := by decide +kernel
theorem dX5_keep_7 : decode cX5_keep 7 = .ok (.lconst 0, 1) := by decide +kernel
theorem dX5_keep_8 : decode cX5_keep 8 = .ok (.lconst 1, 1) := by decide +kernel
theorem dX5_keep_9 : decode cX5_keep 9 = .ok (.invokestatic 63, 3) := by decide +kernel
theorem dX5_keep_12 : decode cX5_keep 12 = .ok (.ifCond .ne 5, 3) := by decide +kernel
theorem dX5_keep_15 : decode cX5_keep 15 = .ok (.iconst (-1), 1) := by decide +kernel
theorem dX5_keep_16 : decode cX5_keep 16 = .ok (.ireturn, 1) := by decide +kernel
theorem dX5_keep_17 : decode cX5_keep 17 = .ok (.aload_n 0, 1) := by decide +kernel
theorem dX5_keep_18 : decode cX5_keep 18 = .ok (.getfield 44, 3) := by decide +kernel
theorem dX5_keep_21 : decode cX5_keep 21 = .ok (.iload_n 1, 1) := by decide +kernel
theorem dX5_keep_22 : decode cX5_keep 22 = .ok (.iconst 1, 1) := by decide +kernel
theorem dX5_keep_23 : decode cX5_keep 23 = .ok (.bastore, 1) := by decide +kernel
theorem dX5_keep_24 : decode cX5_keep 24 = .ok (.iconst 0, 1) := by decide +kernel
theorem dX5_keep_25 : decode cX5_keep 25 = .ok (.istore_n 2, 1) := by decide +kernel
theorem dX5_keep_26 : decode cX5_keep 26 = .ok (.iload_n 2, 1) := by decide +kernel
theorem dX5_keep_27 : decode cX5_keep 27 = .ok (.bipush 13, 2) := by decide +kernel
theorem dX5_keep_29 : decode cX5_keep 29 = .ok (.if_icmp .ge 26, 3) := by decide +kernel
theorem dX5_keep_32 : decode cX5_keep 32 = .ok (.aload_n 0, 1) := by decide +kernel
theorem dX5_keep_33 : decode cX5_keep 33 = .ok (.getfield 41, 3) := by decide +kernel
theorem dX5_keep_36 : decode cX5_keep 36 = .ok (.bipush 13, 2) := by decide +kernel
theorem dX5_keep_38 : decode cX5_keep 38 = .ok (.iload_n 1, 1) := by decide +kernel
theorem dX5_keep_39 : decode cX5_keep 39 = .ok (.imul, 1) := by decide +kernel
theorem dX5_keep_40 : decode cX5_keep 40 = .ok (.iload_n 2, 1) := by decide +kernel
theorem dX5_keep_41 : decode cX5_keep 41 = .ok (.iadd, 1) := by decide +kernel
theorem dX5_keep_42 : decode cX5_keep 42 = .ok (.aload_n 0, 1) := by decide +kernel
theorem dX5_keep_43 : decode cX5_keep 43 = .ok (.getfield 32, 3) := by decide +kernel
theorem dX5_keep_46 : decode cX5_keep 46 = .ok (.iload_n 2, 1) := by decide +kernel
theorem dX5_keep_47 : decode cX5_keep 47 = .ok (.iaload, 1) := by decide +kernel
theorem dX5_keep_48 : decode cX5_keep 48 = .ok (.iastore, 1) := by decide +kernel
theorem dX5_keep_49 : decode cX5_keep 49 = .ok (.iinc 2 1, 3) := by decide +kernel
theorem dX5_keep_52 : decode cX5_keep 52 = .ok (.goto (-26), 3) := by decide +kernel
theorem dX5_keep_55 : decode cX5_keep 55 = .ok (.aload_n 0, 1) := by decide +kernel
theorem dX5_keep_56 : decode cX5_keep 56 = .ok (.getfield 32, 3) := by decide +kernel
theorem dX5_keep_59 : decode cX5_keep 59 = .ok (.bipush 11, 2) := by decide +kernel
theorem dX5_keep_61 : decode cX5_keep 61 = .ok (.iaload, 1) := by decide +kernel
theorem dX5_keep_62 : decode cX5_keep 62 = .ok (.ireturn, 1) := by decide +kernel
set_option maxRecDepth 20000 in
theorem ggX5_again_X5_in : GoodIn wsX5_again wsX5_in := goodIn_r _ [9] (by decide +kernel) (by decide +kernel)
set_option maxRecDepth 20000 in
theorem gX5_again_X5_in : GoodIn wsX5_again (va_wsS RX5 63 yX5_in wsX5_in) := goodIn_app (goodIn_of _ (by decide +kernel)) ggX5_again_X5_in
theorem dX5_again_0 : decode cX5_again 0 = .ok (.aload_n 0, 1) := by decide +kernel
theorem dX5_again_1 : decode cX5_again 1 = .ok (.iconst 0, 1) := by decide +kernel
theorem dX5_again_2 : decode cX5_again 2 = .ok (.putfield 57, 3) := by decide +kernel
theorem dX5_again_5 : decode cX5_again 5 = .ok (.iload_n 1, 1) := by decide +kernel
theorem dX5_again_6 : decode cX5_again 6 = .ok (.i2l, 1) := by decide +kernel
theorem dX5_again_7 : decode cX5_again 7 = .ok (.lconst 0, 1) := by decide +kernel
theorem dX5_again_8 : decode cX5_again 8 = .ok (.lconst 1, 1) := by decide +kernel
theorem dX5_again_9 : decode cX5_again 9 = .ok (.invokestatic 63, 3) := by decide +kernel
theorem dX5_again_12 : decode cX5_again 12 = .ok (.ifCond .ne 5, 3) := by decide +kernel
theorem dX5_again_15 : decode cX5_again 15 = .ok (.iconst (-1), 1) := by decide +kernel
theorem dX5_again_16 : decode cX5_again 16 = .ok (.ireturn, 1) := by decide +kernel
theorem dX5_again_17 : decode cX5_again 17 = .ok (.aload_n 0, 1) := by decide +kernel
theorem dX5_again_18 : decode cX5_again 18 = .ok (.getfield 44, 3) := by decide +kernel
theorem dX5_again_21 : decode cX5_again 21 = .ok (.iload_n 1, 1) := by decide +kernel
theorem dX5_again_22 : decode cX5_again 22 = .ok (.baload, 1) := by decide +kernel
theorem dX5_again_23 : decode cX5_again 23 = .ok (.ifCond .ne 6, 3) := by decide +kernel
theorem dX5_again_26 : decode cX5_again 26 = .ok (.bipush (-3), 2) := by decide +kernel
theorem dX5_again_28 : decode cX5_again 28 = .ok (.ireturn, 1) := by decide +kernel
theorem dX5_again_29 : decode cX5_again 29 = .ok (.iconst 0, 1) := by decide +kernel
theorem dX5_again_30 : decode cX5_again 30 = .ok (.istore_n 2, 1) := by decide +kernel
theorem dX5_again_31 : decode cX5_again 31 = .ok (.iload_n 2, 1) := by decide +kernel
theorem dX5_again_32 : decode cX5_again 32 = .ok (.bipush 13, 2) := by decide +kernel
theorem dX5_again_34 : decode cX5_again 34 = .ok (.if_icmp .ge 26, 3) := by decide +kernel
theorem dX5_again_37 : decode cX5_again 37 = .ok (.aload_n 0, 1) := by decide +kernel
theorem dX5_again_38 : decode cX5_again 38 = .ok (.getfield 32, 3) := by decide +kernel
theorem dX5_again_41 : decode cX5_again 41 = .ok (.iload_n 2, 1) := by decide +kernel
theorem dX5_again_42 : decode cX5_again 42 = .ok (.aload_n 0, 1) := by decide +kernel
theorem dX5_again_43 : decode cX5_again 43 = .ok (.getfield 41, 3) := by decide +kernel
theorem dX5_again_46 : decode cX5_again 46 = .ok (.bipush 13, 2) := by decide +kernel
theorem dX5_again_48 : decode cX5_again 48 = .ok (.iload_n 1, 1) := by decide +kernel
theorem dX5_again_49 : decode cX5_again 49 = .ok (.imul, 1) := by decide +kernel
theorem dX5_again_50 : decode cX5_again 50 = .ok (.iload_n 2, 1) := by decide +kernel
theorem dX5_again_51 : decode cX5_again 51 = .ok (.iadd, 1) := by decide +kernel
theorem dX5_again_52 : decode cX5_again 52 = .ok (.iaload, 1) := by decide +kernel
theorem dX5_again_53 : decode cX5_again 53 = .ok (.iastore, 1) := by decide +kernel
theorem dX5_again_54 : decode cX5_again 54 = .ok (.iinc 2 1, 3) := by decide +kernel
theorem dX5_again_57 : decode cX5_again 57 = .ok (.goto (-26), 3) := by decide +kernel
theorem dX5_again_60 : decode cX5_again 60 = .ok (.aload_n 0, 1) := by decide +kernel
theorem dX5_again_61 : decode cX5_again 61 = .ok (.iconst 0, 1) := by decide +kernel
theorem dX5_again_62 : decode cX5_again 62 = .ok (.putfield 92, 3) := by decide +kernel
theorem dX5_again_65 : decode cX5_again 65 = .ok (.aload_n 0, 1) := by decide +kernel
theorem dX5_again_66 : decode cX5_again 66 = .ok (.getfield 32, 3) := by decide +kernel
theorem dX5_again_69 : decode cX5_again 69 = .ok (.bipush 11, 2) := by decide +kernel
theorem dX5_again_71 : decode cX5_again 71 = .ok (.iaload, 1) := by decide +kernel
theorem dX5_again_72 : decode cX5_again 72 = .ok (.ireturn, 1) := by decide +kernel
