set_option maxRecDepth 20000 in
theorem ggX4_init_X2_init : GoodIn wsX4_init wsX2_init := goodIn_r _ [27, 28, 2, 3, 29, 30, 31, 49, 50] (by decide +kernel) (by decide +kernel)
set_option maxRecDepth 20000 in
theorem gX4_init_X2_init_n9 : GoodIn wsX4_init (wsX2_init) := ggX4_init_X2_init
set_option maxRecDepth 20000 in
theorem ggX4_init_X1_init : GoodIn wsX4_init wsX1_init := goodIn_r _ [33, 34, 2, 3, 35, 36, 37, 38, 39, 62, 63, 64, 65, 66] (by decide +kernel) (by decide +kernel)
set_option maxRecDepth 20000 in
theorem gX4_init_X1_init_n18 : GoodIn wsX4_init (wsX1_init) := ggX4_init_X1_init
set_option maxRecDepth 20000 in
theorem ggX4_init_X3_init : GoodIn wsX4_init wsX3_init := goodIn_r _ [42, 43, 2, 3, 44, 45, 46, 47, 48, 67, 68, 69, 70, 71] (by decide +kernel) (by decide +kernel)
set_option maxRecDepth 20000 in
theorem gX4_init_X3_init : GoodIn wsX4_init (wsX3_init) := ggX4_init_X3_init
theorem dX4_init_0 : decode cX4_init 0 = .ok (.aload_n 0, 1) := by decide +kernel
theorem dX4_init_1 : decode cX4_init 1 = .ok (.invokespecial 1, 3) := by decide +kernel
theorem dX4_init_4 : decode cX4_init 4 = .ok (.aload_n 0, 1) := by decide +kernel
theorem dX4_init_5 : decode cX4_init 5 = .ok (.new 7, 3) := by decide +kernel
theorem dX4_init_8 : decode cX4_init 8 = .ok (.dup, 1) := by decide +kernel
theorem dX4_init_9 : decode cX4_init 9 = .ok (.invokespecial 9, 3) := by decide +kernel
theorem dX4_init_12 : decode cX4_init 12 = .ok (.putfield 10, 3) := by decide +kernel
theorem dX4_init_15 : decode cX4_init 15 = .ok (.aload_n 0, 1) := by decide +kernel
theorem dX4_init_16 : decode cX4_init 16 = .ok (.new 16, 3) := by decide +kernel
theorem dX4_init_19 : decode cX4_init 19 = .ok (.dup, 1) := by decide +kernel
theorem dX4_init_20 : decode cX4_init 20 = .ok (.invokespecial 18, 3) := by decide +kernel
theorem dX4_init_23 : decode cX4_init 23 = .ok (.putfield 19, 3) := by decide +kernel
theorem dX4_init_26 : decode cX4_init 26 = .ok (.aload_n 0, 1) := by decide +kernel
theorem dX4_init_27 : decode cX4_init 27 = .ok (.new 23, 3) := by decide +kernel
theorem dX4_init_30 : decode cX4_init 30 = .ok (.dup, 1) := by decide +kernel
theorem dX4_init_31 : decode cX4_init 31 = .ok (.aload_n 0, 1) := by decide +kernel
theorem dX4_init_32 : decode cX4_init 32 = .ok (.getfield 19, 3) := by decide +kernel
theorem dX4_init_35 : decode cX4_init 35 = .ok (.invokespecial 25, 3) := by decide +kernel
theorem dX4_init_38 : decode cX4_init 38 = .ok (.putfield 28, 3) := by decide +kernel
theorem dX4_init_41 : decode cX4_init 41 = .ok (.aload_n 0, 1) := by decide +kernel
theorem dX4_init_42 : decode cX4_init 42 = .ok (.new 23, 3) := by decide +kernel
theorem dX4_init_45 : decode cX4_init 45 = .ok (.dup, 1) := by decide +kernel
theorem dX4_init_46 : decode cX4_init 46 = .ok (.aload_n 0, 1) := by decide +kernel
theorem dX4_init_47 : decode cX4_init 47 = .ok (.getfield 19, 3) := by decide +kernel
theorem dX4_init_50 : decode cX4_init 50 = .ok (.invokespecial 25, 3) := by decide +kernel
theorem dX4_init_53 : decode cX4_init 53 = .ok (.putfield 32, 3) := by decide +kernel
theorem dX4_init_56 : decode cX4_init 56 = .ok (.aload_n 0, 1) := by decide +kernel
theorem dX4_init_57 : decode cX4_init 57 = .ok (.bipush 14, 2) := by decide +kernel
theorem dX4_init_59 : decode cX4_init 59 = .ok (.newarray .long, 2) := by decide +kernel
theorem dX4_init_61 : decode cX4_init 61 = .ok (.putfield 35, 3) := by decide +kernel
theorem dX4_init_64 : decode cX4_init 64 = .ok (.aload_n 0, 1) := by decide +kernel
theorem dX4_init_65 : decode cX4_init 65 = .ok (.iconst 0, 1) := by decide +kernel
theorem dX4_init_66 : decode cX4_init 66 = .ok (.putfield 39, 3) := by decide +kernel
theorem dX4_init_69 : decode cX4_init 69 = .ok (.aload_n 0, 1) := by decide +kernel
theorem dX4_init_70 : decode cX4_init 70 = .ok (.iconst 2, 1) := by decide +kernel
theorem dX4_init_71 : decode cX4_init 71 = .ok (.newarray .long, 2) := by decide +kernel
theorem dX4_init_73 : decode cX4_init 73 = .ok (.dup, 1) := by decide +kernel
theorem dX4_init_74 : decode cX4_init 74 = .ok (.iconst 0, 1) := by decide +kernel
theorem dX4_init_75 : decode cX4_init 75 = .ok (.ldc2_w 43, 3) := by decide +kernel
theorem dX4_init_78 : decode cX4_init 78 = .ok (.lastore, 1) := by decide +kernel
theorem dX4_init_79 : decode cX4_init 79 = .ok (.dup, 1) := by decide +kernel
theorem dX4_init_80 : decode cX4_init 80 = .ok (.iconst 1, 1) := by decide +kernel
theorem dX4_init_81 : decode cX4_init 81 = .ok (.ldc2_w 43, 3) := by decide +kernel
theorem dX4_init_84 : decode cX4_init 84 = .ok (.lastore, 1) := by decide +kernel
theorem dX4_init_85 : decode cX4_init 85 = .ok (.putfield 45, 3) := by decide +kernel
theorem dX4_init_88 : decode cX4_init 88 = .ok (.aload_n 0, 1) := by decide +kernel
theorem dX4_init_89 : decode cX4_init 89 = .ok (.iconst 0, 1) := by decide +kernel
theorem dX4_init_90 : decode cX4_init 90 = .ok (.putfield 48, 3) := by decide +kernel
theorem dX4_init_93 : decode cX4_init 93 = .ok (.aload_n 0, 1) := by decide +kernel
theorem dX4_init_94 : decode cX4_init 94 = .ok (.iconst 0, 1) := by decide +kernel
theorem dX4_init_95 : decode cX4_init 95 = .ok (.putfield 51, 3) := by decide +kernel
theorem dX4_init_98 : decode cX4_init 98 = .ok (.aload_n 0, 1) := by decide +kernel
theorem dX4_init_99 : decode cX4_init 99 = .ok (.iconst 0, 1) := by decide +kernel
theorem dX4_init_100 : decode cX4_init 100 = .ok (.putfield 54, 3) := by decide +kernel
theorem dX4_init_103 : decode cX4_init 103 = .ok (.aload_n 0, 1) := by decide +kernel
theorem dX4_init_104 : decode cX4_init 104 = .ok (.lconst 0, 1) := by decide +kernel
theorem dX4_init_105 : decode cX4_init 105 = .ok (.putfield 57, 3) := by decide +kernel
theorem dX4_init_108 : decode cX4_init 108 = .ok (.return_, 1) := by decide +kernel
set_option maxRecDepth 20000 in
theorem ggX4_write_X4_within : GoodIn wsX4_write wsX4_within := goodIn_r _ [5] (by decide +kernel) (by decide +kernel)
set_option maxRecDepth 20000 in
theorem gX4_write_X4_within : GoodIn wsX4_write (va_wsS RX4 61 yX4_within wsX4_within) := goodIn_app (goodIn_of _ (by decide +kernel)) ggX4_write_X4_within
set_option maxRecDepth 20000 in
theorem ggX4_write_X2_append : GoodIn wsX4_write wsX2_append := goodIn_r _ [10, 11, 12, 28, 29] (by decide +kernel) (by decide +kernel)
set_option maxRecDepth 20000 in
theorem gX4_write_X2_append : GoodIn wsX4_write (wsV RX4 65 RX2 yX2_append wsX2_append) := goodIn_app (goodIn_of _ (by decide +kernel)) ggX4_write_X2_append
set_option maxRecDepth 20000 in
theorem ggX4_write_X2_length : GoodIn wsX4_write wsX2_length := goodIn_r _ [16, 11, 28, 29] (by decide +kernel) (by decide +kernel)
set_option maxRecDepth 20000 in
theorem gX4_write_X2_length : GoodIn wsX4_write (wsV RX4 69 RX2 yX2_length wsX2_length) := goodIn_app (goodIn_of _ (by decide +kernel)) ggX4_write_X2_length
theorem dX4_write_0 : decode cX4_write 0 = .ok (.iload_n 1, 1) := by decide +kernel
theorem dX4_write_1 : decode cX4_write 1 = .ok (.iconst 0, 1) := by decide +kernel
theorem dX4_write_2 : decode cX4_write 2 = .ok (.sipush 255, 3) := by decide +kernel
theorem dX4_write_5 : decode cX4_write 5 = .ok (.invokestatic 61, 3) := by decide +kernel
theorem dX4_write_8 : decode cX4_write 8 = .ok (.ifCond .ne 6, 3) := by decide +kernel
theorem dX4_write_11 : decode cX4_write 11 = .ok (.bipush (-2), 2) := by decide +kernel
theorem dX4_write_13 : decode cX4_write 13 = .ok (.ireturn, 1) := by decide +kernel
theorem dX4_write_14 : decode cX4_write 14 = .ok (.aload_n 0, 1) := by decide +kernel
theorem dX4_write_15 : decode cX4_write 15 = .ok (.getfield 10, 3) := by decide +kernel
theorem dX4_write_18 : decode cX4_write 18 = .ok (.iload_n 1, 1) := by decide +kernel
theorem dX4_write_19 : decode cX4_write 19 = .ok (.invokevirtual 65, 3) := by decide +kernel
theorem dX4_write_22 : decode cX4_write 22 = .ok (.ifCond .eq 13, 3) := by decide +kernel
theorem dX4_write_25 : decode cX4_write 25 = .ok (.aload_n 0, 1) := by decide +kernel
theorem dX4_write_26 : decode cX4_write 26 = .ok (.getfield 10, 3) := by decide +kernel
theorem dX4_write_29 : decode cX4_write 29 = .ok (.invokevirtual 69, 3) := by decide +kernel
theorem dX4_write_32 : decode cX4_write 32 = .ok (.goto 5, 3) := by decide +kernel
theorem dX4_write_35 : decode cX4_write 35 = .ok (.bipush (-4), 2) := by decide +kernel
theorem dX4_write_37 : decode cX4_write 37 = .ok (.ireturn, 1) := by decide +kernel
set_option maxRecDepth 20000 in
theorem ggX4_wipe_X2_length : GoodIn wsX4_wipe wsX2_length := goodIn_r _ [6, 7, 23, 24] (by decide +kernel) (by decide +kernel)
set_option maxRecDepth 20000 in
theorem gX4_wipe_X2_length : GoodIn wsX4_wipe (wsV RX4 69 RX2 yX2_length wsX2_length) := goodIn_app (goodIn_of _ (by decide +kernel)) ggX4_wipe_X2_length
set_option maxRecDepth 20000 in
theorem ggX4_wipe_X2_clear : GoodIn wsX4_wipe wsX2_clear := goodIn_r _ [11, 7, 23, 24] (by decide +kernel) (by decide +kernel)
set_option maxRecDepth 20000 in
theorem gX4_wipe_X2_clear : GoodIn wsX4_wipe (wsV RX4 73 RX2 yX2_clear wsX2_clear) := goodIn_app (goodIn_of _ (by decide +kernel)) ggX4_wipe_X2_clear
theorem dX4_wipe_0 : decode cX4_wipe 0 = .ok (.aload_n 0, 1) := by decide +kernel
theorem dX4_wipe_1 : decode cX4_wipe 1 = .ok (.getfield 10, 3) := by decide +kernel
theorem dX4_wipe_4 : decode cX4_wipe 4 = .ok (.invokevirtual 69, 3) := by decide +kernel
theorem dX4_wipe_7 : decode cX4_wipe 7 = .ok (.istore_n 1, 1) := by decide +kernel
theorem dX4_wipe_8 : decode cX4_wipe 8 = .ok (.aload_n 0, 1) := by decide +kernel
theorem dX4_wipe_9 : decode cX4_wipe 9 = .ok (.getfield 10, 3) := by decide +kernel
theorem dX4_wipe_12 : decode cX4_wipe 12 = .ok (.invokevirtual 73, 3) := by decide +kernel
theorem dX4_wipe_15 : decode cX4_wipe 15 = .ok (.iload_n 1, 1) := by decide +kernel
theorem dX4_wipe_16 : decode cX4_wipe 16 = .ok (.ireturn, 1) := by decide +kernel
set_option maxRecDepth 20000 in
theorem ggX4_fault_X2_firstFault : GoodIn wsX4_fault wsX2_firstFault := goodIn_r _ [6, 7, 8, 9, 10, 5, 11, 12, 13, 14, 15, 16, 17, 18, 19, 20, 21, 22, 23, 24, 25, 26, 27, 39, 40] (by decide +kernel) (by decide +kernel)
set_option maxRecDepth 20000 in
theorem gX4_fault_X2_firstFault : GoodIn wsX4_fault (wsV RX4 76 RX2 yX2_firstFault wsX2_firstFault) := goodIn_app (goodIn_of _ (by decide +kernel)) ggX4_fault_X2_firstFault
theorem dX4_fault_0 : decode cX4_fault 0 = .ok (.aload_n 0, 1) := by decide +kernel
theorem dX4_fault_1 : decode cX4_fault 1 = .ok (.getfield 10, 3) := by decide +kernel
theorem dX4_fault_4 : decode cX4_fault 4 = .ok (.invokevirtual 76, 3) := by decide +kernel
theorem dX4_fault_7 : decode cX4_fault 7 = .ok (.ireturn, 1) := by decide +kernel
set_option maxRecDepth 20000 in
theorem ggX4_gorge_X2_firstFault : GoodIn wsX4_gorge wsX2_firstFault := goodIn_r _ [9, 10, 11, 12, 13, 8, 14, 15, 16, 17, 18, 19, 20, 21, 22, 23, 24, 25, 26, 27, 28, 29, 30, 100, 101] (by decide +kernel) (by decide +kernel)
set_option maxRecDepth 20000 in
theorem gX4_gorge_X2_firstFault : GoodIn wsX4_gorge (wsV RX4 76 RX2 yX2_firstFault wsX2_firstFault) := goodIn_app (goodIn_of _ (by decide +kernel)) ggX4_gorge_X2_firstFault
set_option maxRecDepth 20000 in
theorem ggX4_gorge_X1_read : GoodIn wsX4_gorge wsX1_read := goodIn_r _ [35, 36, 37, 38, 39, 40, 41, 21, 22, 8, 23, 15, 16, 17, 18, 19, 42, 43, 44, 45, 10, 46, 47, 48, 49, 20, 50, 51, 52, 53, 54, 55, 56, 57, 102, 103, 104, 105, 106, 100, 101] (by decide +kernel) (by decide +kernel)
set_option maxRecDepth 20000 in
theorem gX4_gorge_X1_read : GoodIn wsX4_gorge (wsV RX4 79 RX1 yX1_read wsX1_read) := goodIn_app (goodIn_of _ (by decide +kernel)) ggX4_gorge_X1_read
set_option maxRecDepth 20000 in
theorem ggX4_gorge_X3_start : GoodIn wsX4_gorge wsX3_start := goodIn_r _ [62, 63, 64, 65, 66, 34, 67, 38, 68, 69, 52, 70, 71, 51, 53, 72, 73, 74, 61, 75, 76, 77, 78, 107, 108, 109, 110, 111, 102, 103, 104, 105, 106] (by decide +kernel) (by decide +kernel)
set_option maxRecDepth 20000 in
theorem gX4_gorge_X3_start : GoodIn wsX4_gorge (wsV RX4 83 RX3 yX3_start wsX3_start) := goodIn_app (goodIn_of _ (by decide +kernel)) ggX4_gorge_X3_start
set_option maxRecDepth 20000 in
theorem ggX4_gorge_X4_forgetKept : GoodIn wsX4_gorge wsX4_forgetKept := goodIn_r _ [82, 83, 84, 89, 90, 91, 92, 93, 94, 95, 96, 97, 98, 99] (by decide +kernel) (by decide +kernel)
set_option maxRecDepth 20000 in
theorem gX4_gorge_X4_forgetKept : GoodIn wsX4_gorge (wsV RX4 86 RX4 yX4_forgetKept wsX4_forgetKept) := goodIn_app (goodIn_of _ (by decide +kernel)) ggX4_gorge_X4_forgetKept
set_option maxRecDepth 20000 in
theorem ggX4_gorge_X1_walkers : GoodIn wsX4_gorge wsX1_walkers := goodIn_r _ [88, 38, 102, 103, 104, 105, 106] (by decide +kernel) (by decide +kernel)
set_option maxRecDepth 20000 in
theorem gX4_gorge_X1_walkers : GoodIn wsX4_gorge (wsV RX4 89 RX1 yX1_walkers wsX1_walkers) := goodIn_app (goodIn_of _ (by decide +kernel)) ggX4_gorge_X1_walkers
theorem dX4_gorge_0 : decode cX4_gorge 0 = .ok (.aload_n 0, 1) := by decide +kernel
theorem dX4_gorge_1 : decode cX4_gorge 1 = .ok (.getfield 10, 3) := by decide +kernel
theorem dX4_gorge_4 : decode cX4_gorge 4 = .ok (.invokevirtual 76, 3) := by decide +kernel
theorem dX4_gorge_7 : decode cX4_gorge 7 = .ok (.bipush (-9), 2) := by decide +kernel
theorem dX4_gorge_9 : decode cX4_gorge 9 = .ok (.if_icmp .eq 6, 3) := by decide +kernel
theorem dX4_gorge_12 : decode cX4_gorge 12 = .ok (.bipush (-3), 2) := by decide +kernel
theorem dX4_gorge_14 : decode cX4_gorge 14 = .ok (.ireturn, 1) := by decide +kernel
theorem dX4_gorge_15 : decode cX4_gorge 15 = .ok (.aload_n 0, 1) := by decide +kernel
theorem dX4_gorge_16 : decode cX4_gorge 16 = .ok (.getfield 19, 3) := by decide +kernel
theorem dX4_gorge_19 : decode cX4_gorge 19 = .ok (.aload_n 0, 1) := by decide +kernel
theorem dX4_gorge_20 : decode cX4_gorge 20 = .ok (.getfield 10, 3) := by decide +kernel
theorem dX4_gorge_23 : decode cX4_gorge 23 = .ok (.invokevirtual 79, 3) := by decide +kernel
theorem dX4_gorge_26 : decode cX4_gorge 26 = .ok (.aload_n 0, 1) := by decide +kernel
theorem dX4_gorge_27 : decode cX4_gorge 27 = .ok (.getfield 28, 3) := by decide +kernel
theorem dX4_gorge_30 : decode cX4_gorge 30 = .ok (.invokevirtual 83, 3) := by decide +kernel
theorem dX4_gorge_33 : decode cX4_gorge 33 = .ok (.aload_n 0, 1) := by decide +kernel
theorem dX4_gorge_34 : decode cX4_gorge 34 = .ok (.iconst 0, 1) := by decide +kernel
theorem dX4_gorge_35 : decode cX4_gorge 35 = .ok (.putfield 39, 3) := by decide +kernel
theorem dX4_gorge_38 : decode cX4_gorge 38 = .ok (.aload_n 0, 1) := by decide +kernel
theorem dX4_gorge_39 : decode cX4_gorge 39 = .ok (.invokevirtual 86, 3) := by decide +kernel
theorem dX4_gorge_42 : decode cX4_gorge 42 = .ok (.aload_n 0, 1) := by decide +kernel
theorem dX4_gorge_43 : decode cX4_gorge 43 = .ok (.getfield 19, 3) := by decide +kernel
theorem dX4_gorge_46 : decode cX4_gorge 46 = .ok (.invokevirtual 89, 3) := by decide +kernel
theorem dX4_gorge_49 : decode cX4_gorge 49 = .ok (.ireturn, 1) := by decide +kernel
set_option maxRecDepth 20000 in
theorem ggX4_about_X1_walkers : GoodIn wsX4_about wsX1_walkers := goodIn_r _ [10, 11, 77, 78, 79, 80, 81] (by decide +kernel) (by decide +kernel)
set_option maxRecDepth 20000 in
theorem gX4_about_X1_walkers : GoodIn wsX4_about (wsV RX4 89 RX1 yX1_walkers wsX1_walkers) := goodIn_app (goodIn_of _ (by decide +kernel)) ggX4_about_X1_walkers
set_option maxRecDepth 20000 in
theorem ggX4_about_X1_light : GoodIn wsX4_about wsX1_light := goodIn_r _ [15, 16, 77, 78, 79, 80, 81] (by decide +kernel) (by decide +kernel)
set_option maxRecDepth 20000 in
theorem gX4_about_X1_light : GoodIn wsX4_about (wsV RX4 92 RX1 yX1_light wsX1_light) := goodIn_app (goodIn_of _ (by decide +kernel)) ggX4_about_X1_light
set_option maxRecDepth 20000 in
theorem ggX4_about_X1_water : GoodIn wsX4_about wsX1_water := goodIn_r _ [20, 21, 77, 78, 79, 80, 81] (by decide +kernel) (by decide +kernel)
set_option maxRecDepth 20000 in
theorem gX4_about_X1_water : GoodIn wsX4_about (wsV RX4 95 RX1 yX1_water wsX1_water) := goodIn_app (goodIn_of _ (by decide +kernel)) ggX4_about_X1_water
set_option maxRecDepth 20000 in
theorem ggX4_about_X3_place : GoodIn wsX4_about wsX3_place := goodIn_r _ [26, 27, 82, 83, 84, 85, 86] (by decide +kernel) (by decide +kernel)
set_option maxRecDepth 20000 in
theorem gX4_about_X3_place : GoodIn wsX4_about (wsV RX4 98 RX3 yX3_place wsX3_place) := goodIn_app (goodIn_of _ (by decide +kernel)) ggX4_about_X3_place
set_option maxRecDepth 20000 in
theorem ggX4_about_X3_members : GoodIn wsX4_about wsX3_members := goodIn_r _ [31, 32, 33, 34, 35, 36, 37, 38, 39, 40, 41, 42, 82, 83, 84, 85, 86] (by decide +kernel) (by decide +kernel)
set_option maxRecDepth 20000 in
theorem gX4_about_X3_members : GoodIn wsX4_about (wsV RX4 101 RX3 yX3_members wsX3_members) := goodIn_app (goodIn_of _ (by decide +kernel)) ggX4_about_X3_members
set_option maxRecDepth 20000 in
theorem ggX4_about_X1_everybody : GoodIn wsX4_about wsX1_everybody := goodIn_r _ [46, 11, 77, 78, 79, 80, 81] (by decide +kernel) (by decide +kernel)
set_option maxRecDepth 20000 in
theorem gX4_about_X1_everybody : GoodIn wsX4_about (wsV RX4 104 RX1 yX1_everybody wsX1_everybody) := goodIn_app (goodIn_of _ (by decide +kernel)) ggX4_about_X1_everybody
set_option maxRecDepth 20000 in
theorem ggX4_about_X3_row : GoodIn wsX4_about wsX3_row := goodIn_r _ [50, 32, 82, 83, 84, 85, 86] (by decide +kernel) (by decide +kernel)
set_option maxRecDepth 20000 in
theorem gX4_about_X3_row : GoodIn wsX4_about (wsV RX4 107 RX3 yX3_row wsX3_row) := goodIn_app (goodIn_of _ (by decide +kernel)) ggX4_about_X3_row
set_option maxRecDepth 20000 in
theorem ggX4_about_X0_figures : GoodIn wsX4_about wsX0_figures := goodIn_r _ [53, 37, 38, 35, 39, 40, 41, 42] (by decide +kernel) (by decide +kernel)
set_option maxRecDepth 20000 in
theorem gX4_about_X0_figures : GoodIn wsX4_about (va_wsS RX4 110 yX0_figures wsX0_figures) := goodIn_app (goodIn_of _ (by decide +kernel)) ggX4_about_X0_figures
set_option maxRecDepth 20000 in
theorem ggX4_about_X2_length : GoodIn wsX4_about wsX2_length := goodIn_r _ [58, 59, 87, 88] (by decide +kernel) (by decide +kernel)
set_option maxRecDepth 20000 in
theorem gX4_about_X2_length : GoodIn wsX4_about (wsV RX4 69 RX2 yX2_length wsX2_length) := goodIn_app (goodIn_of _ (by decide +kernel)) ggX4_about_X2_length
set_option maxRecDepth 20000 in
theorem ggX4_about_X3_isOut : GoodIn wsX4_about wsX3_isOut := goodIn_r _ [63, 27, 64, 65, 13, 14, 9, 15, 16, 82, 83, 84, 85, 86, 77, 78, 79, 80, 81] (by decide +kernel) (by decide +kernel)
set_option maxRecDepth 20000 in
theorem gX4_about_X3_isOut : GoodIn wsX4_about (wsV RX4 116 RX3 yX3_isOut wsX3_isOut) := goodIn_app (goodIn_of _ (by decide +kernel)) ggX4_about_X3_isOut
theorem dX4_about_0 : decode cX4_about 0 = .ok (.iload_n 1, 1) := by decide +kernel
theorem dX4_about_1 : decode cX4_about 1 = .ok (.tableswitch 162 0 10 #[59, 67, 75, 83, 91, 99, 117, 128, 133, 138, 146], 59) := by decide +kernel
theorem dX4_about_60 : decode cX4_about 60 = .ok (.aload_n 0, 1) := by decide +kernel
theorem dX4_about_61 : decode cX4_about 61 = .ok (.getfield 19, 3) := by decide +kernel
theorem dX4_about_64 : decode cX4_about 64 = .ok (.invokevirtual 89, 3) := by decide +kernel
theorem dX4_about_67 : decode cX4_about 67 = .ok (.ireturn, 1) := by decide +kernel
theorem dX4_about_68 : decode cX4_about 68 = .ok (.aload_n 0, 1) := by decide +kernel
theorem dX4_about_69 : decode cX4_about 69 = .ok (.getfield 19, 3) := by decide +kernel
theorem dX4_about_72 : decode cX4_about 72 = .ok (.invokevirtual 92, 3) := by decide +kernel
theorem dX4_about_75 : decode cX4_about 75 = .ok (.ireturn, 1) := by decide +kernel
theorem dX4_about_76 : decode cX4_about 76 = .ok (.aload_n 0, 1) := by decide +kernel
theorem dX4_about_77 : decode cX4_about 77 = .ok (.getfield 19, 3) := by decide +kernel
theorem dX4_about_80 : decode cX4_about 80 = .ok (.invokevirtual 95, 3) := by decide +kernel
theorem dX4_about_83 : decode cX4_about 83 = .ok (.ireturn, 1) := by decide +kernel
theorem dX4_about_84 : decode cX4_about 84 = .ok (.aload_n 0, 1) := by decide +kernel
theorem dX4_about_85 : decode cX4_about 85 = .ok (.getfield 28, 3) := by decide +kernel
theorem dX4_about_88 : decode cX4_about 88 = .ok (.invokevirtual 98, 3) := by decide +kernel
theorem dX4_about_91 : decode cX4_about 91 = .ok (.ireturn, 1) := by decide +kernel
theorem dX4_about_92 : decode cX4_about 92 = .ok (.aload_n 0, 1) := by decide +kernel
theorem dX4_about_93 : decode cX4_about 93 = .ok (.getfield 28, 3) := by decide +kernel
theorem dX4_about_96 : decode cX4_about 96 = .ok (.invokevirtual 101, 3) := by decide +kernel
theorem dX4_about_99 : decode cX4_about 99 = .ok (.ireturn, 1) := by decide +kernel
theorem dX4_about_100 : decode cX4_about 100 = .ok (.aload_n 0, 1) := by decide +kernel
theorem dX4_about_101 : decode cX4_about 101 = .ok (.getfield 19, 3) := by decide +kernel
theorem dX4_about_104 : decode cX4_about 104 = .ok (.invokevirtual 104, 3) := by decide +kernel
theorem dX4_about_107 : decode cX4_about 107 = .ok (.aload_n 0, 1) := by decide +kernel
theorem dX4_about_108 : decode cX4_about 108 = .ok (.getfield 28, 3) := by decide +kernel
theorem dX4_about_111 : decode cX4_about 111 = .ok (.invokevirtual 101, 3) := by decide +kernel
theorem dX4_about_114 : decode cX4_about 114 = .ok (.iconst (-1), 1) := by decide +kernel
theorem dX4_about_115 : decode cX4_about 115 = .ok (.ixor, 1) := by decide +kernel
theorem dX4_about_116 : decode cX4_about 116 = .ok (.iand, 1) := by decide +kernel
theorem dX4_about_117 : decode cX4_about 117 = .ok (.ireturn, 1) := by decide +kernel
theorem dX4_about_118 : decode cX4_about 118 = .ok (.aload_n 0, 1) := by decide +kernel
theorem dX4_about_119 : decode cX4_about 119 = .ok (.getfield 28, 3) := by decide +kernel
theorem dX4_about_122 : decode cX4_about 122 = .ok (.invokevirtual 107, 3) := by decide +kernel
theorem dX4_about_125 : decode cX4_about 125 = .ok (.invokestatic 110, 3) := by decide +kernel
theorem dX4_about_128 : decode cX4_about 128 = .ok (.ireturn, 1) := by decide +kernel
theorem dX4_about_129 : decode cX4_about 129 = .ok (.aload_n 0, 1) := by decide +kernel
theorem dX4_about_130 : decode cX4_about 130 = .ok (.getfield 39, 3) := by decide +kernel
theorem dX4_about_133 : decode cX4_about 133 = .ok (.ireturn, 1) := by decide +kernel
theorem dX4_about_134 : decode cX4_about 134 = .ok (.aload_n 0, 1) := by decide +kernel
theorem dX4_about_135 : decode cX4_about 135 = .ok (.getfield 54, 3) := by decide +kernel
theorem dX4_about_138 : decode cX4_about 138 = .ok (.ireturn, 1) := by decide +kernel
theorem dX4_about_139 : decode cX4_about 139 = .ok (.aload_n 0, 1) := by decide +kernel
theorem dX4_about_140 : decode cX4_about 140 = .ok (.getfield 10, 3) := by decide +kernel
theorem dX4_about_143 : decode cX4_about 143 = .ok (.invokevirtual 69, 3) := by decide +kernel
theorem dX4_about_146 : decode cX4_about 146 = .ok (.ireturn, 1) := by decide +kernel
theorem dX4_about_147 : decode cX4_about 147 = .ok (.aload_n 0, 1) := by decide +kernel
theorem dX4_about_148 : decode cX4_about 148 = .ok (.getfield 28, 3) := by decide +kernel
theorem dX4_about_151 : decode cX4_about 151 = .ok (.invokevirtual 116, 3) := by decide +kernel
theorem dX4_about_154 : decode cX4_about 154 = .ok (.ifCond .eq 7, 3) := by decide +kernel
theorem dX4_about_157 : decode cX4_about 157 = .ok (.iconst 1, 1) := by decide +kernel
theorem dX4_about_158 : decode cX4_about 158 = .ok (.goto 4, 3) := by decide +kernel
theorem dX4_about_161 : decode cX4_about 161 = .ok (.iconst 0, 1) := by decide +kernel
theorem dX4_about_162 : decode cX4_about 162 = .ok (.ireturn, 1) := by decide +kernel
theorem dX4_about_163 : decode cX4_about 163 = .ok (.bipush (-2), 2) := by decide +kernel
theorem dX4_about_165 : decode cX4_about 165 = .ok (.ireturn, 1) := by decide +kernel
set_option maxRecDepth 20000 in
theorem ggX4_walker_X1_has : GoodIn wsX4_walker wsX1_has := goodIn_r _ [7, 8, 9, 10, 11, 66, 67, 68, 69, 70] (by decide +kernel) (by decide +kernel)
set_option maxRecDepth 20000 in
theorem gX4_walker_X1_has : GoodIn wsX4_walker (wsV RX4 120 RX1 yX1_has wsX1_has) := goodIn_app (goodIn_of _ (by decide +kernel)) ggX4_walker_X1_has
set_option maxRecDepth 20000 in
theorem ggX4_walker_X1_nerve : GoodIn wsX4_walker wsX1_nerve := goodIn_r _ [15, 16, 17, 18, 19, 20, 66, 67, 68, 69, 70] (by decide +kernel) (by decide +kernel)
set_option maxRecDepth 20000 in
theorem gX4_walker_X1_nerve : GoodIn wsX4_walker (wsV RX4 123 RX1 yX1_nerve wsX1_nerve) := goodIn_app (goodIn_of _ (by decide +kernel)) ggX4_walker_X1_nerve
set_option maxRecDepth 20000 in
theorem ggX4_walker_X1_kind : GoodIn wsX4_walker wsX1_kind := goodIn_r _ [24, 25, 17, 18, 19, 20, 66, 67, 68, 69, 70] (by decide +kernel) (by decide +kernel)
set_option maxRecDepth 20000 in
theorem gX4_walker_X1_kind : GoodIn wsX4_walker (wsV RX4 126 RX1 yX1_kind wsX1_kind) := goodIn_app (goodIn_of _ (by decide +kernel)) ggX4_walker_X1_kind
set_option maxRecDepth 20000 in
theorem ggX4_walker_X3_quiet : GoodIn wsX4_walker wsX3_quiet := goodIn_r _ [30, 31, 32, 18, 19, 20, 71, 72, 73, 74, 75] (by decide +kernel) (by decide +kernel)
set_option maxRecDepth 20000 in
theorem gX4_walker_X3_quiet : GoodIn wsX4_walker (wsV RX4 129 RX3 yX3_quiet wsX3_quiet) := goodIn_app (goodIn_of _ (by decide +kernel)) ggX4_walker_X3_quiet
set_option maxRecDepth 20000 in
theorem ggX4_walker_X3_indexOf : GoodIn wsX4_walker wsX3_indexOf := goodIn_r _ [36, 37, 38, 39, 29, 40, 41, 42, 43, 19, 44, 45, 18, 20, 46, 47, 48, 49, 32, 71, 72, 73, 74, 75] (by decide +kernel) (by decide +kernel)
set_option maxRecDepth 20000 in
theorem gX4_walker_X3_indexOf : GoodIn wsX4_walker (wsV RX4 132 RX3 yX3_indexOf wsX3_indexOf) := goodIn_app (goodIn_of _ (by decide +kernel)) ggX4_walker_X3_indexOf
set_option maxRecDepth 20000 in
theorem ggX4_walker_X3_behind : GoodIn wsX4_walker wsX3_behind := goodIn_r _ [53, 54, 34, 35, 29, 36, 37, 38, 39, 40, 41, 42, 43, 19, 44, 45, 18, 20, 46, 47, 48, 49, 32, 71, 72, 73, 74, 75] (by decide +kernel) (by decide +kernel)
set_option maxRecDepth 20000 in
theorem gX4_walker_X3_behind : GoodIn wsX4_walker (wsV RX4 135 RX3 yX3_behind wsX3_behind) := goodIn_app (goodIn_of _ (by decide +kernel)) ggX4_walker_X3_behind
theorem dX4_walker_0 : decode cX4_walker 0 = .ok (.aload_n 0, 1) := by decide +kernel
theorem dX4_walker_1 : decode cX4_walker 1 = .ok (.getfield 19, 3) := by decide +kernel
theorem dX4_walker_4 : decode cX4_walker 4 = .ok (.iload_n 1, 1) := by decide +kernel
theorem dX4_walker_5 : decode cX4_walker 5 = .ok (.invokevirtual 120, 3) := by decide +kernel
theorem dX4_walker_8 : decode cX4_walker 8 = .ok (.ifCond .ne 5, 3) := by decide +kernel
theorem dX4_walker_11 : decode cX4_walker 11 = .ok (.iconst (-1), 1) := by decide +kernel
theorem dX4_walker_12 : decode cX4_walker 12 = .ok (.ireturn, 1) := by decide +kernel
theorem dX4_walker_13 : decode cX4_walker 13 = .ok (.iload_n 2, 1) := by decide +kernel
theorem dX4_walker_14 : decode cX4_walker 14 = .ok (.tableswitch 79 0 4 #[34, 43, 52, 61, 70], 34) := by decide +kernel
theorem dX4_walker_48 : decode cX4_walker 48 = .ok (.aload_n 0, 1) := by decide +kernel
theorem dX4_walker_49 : decode cX4_walker 49 = .ok (.getfield 19, 3) := by decide +kernel
theorem dX4_walker_52 : decode cX4_walker 52 = .ok (.iload_n 1, 1) := by decide +kernel
theorem dX4_walker_53 : decode cX4_walker 53 = .ok (.invokevirtual 123, 3) := by decide +kernel
theorem dX4_walker_56 : decode cX4_walker 56 = .ok (.ireturn, 1) := by decide +kernel
theorem dX4_walker_57 : decode cX4_walker 57 = .ok (.aload_n 0, 1) := by decide +kernel
theorem dX4_walker_58 : decode cX4_walker 58 = .ok (.getfield 19, 3) := by decide +kernel
theorem dX4_walker_61 : decode cX4_walker 61 = .ok (.iload_n 1, 1) := by decide +kernel
theorem dX4_walker_62 : decode cX4_walker 62 = .ok (.invokevirtual 126, 3) := by decide +kernel
theorem dX4_walker_65 : decode cX4_walker 65 = .ok (.ireturn, 1) := by decide +kernel
theorem dX4_walker_66 : decode cX4_walker 66 = .ok (.aload_n 0, 1) := by decide +kernel
theorem dX4_walker_67 : decode cX4_walker 67 = .ok (.getfield 28, 3) := by decide +kernel
theorem dX4_walker_70 : decode cX4_walker 70 = .ok (.iload_n 1, 1) := by decide +kernel
theorem dX4_walker_71 : decode cX4_walker 71 = .ok (.invokevirtual 129, 3) := by decide +kernel
theorem dX4_walker_74 : decode cX4_walker 74 = .ok (.ireturn, 1) := by decide +kernel
theorem dX4_walker_75 : decode cX4_walker 75 = .ok (.aload_n 0, 1) := by decide +kernel
theorem dX4_walker_76 : decode cX4_walker 76 = .ok (.getfield 28, 3) := by decide +kernel
theorem dX4_walker_79 : decode cX4_walker 79 = .ok (.iload_n 1, 1) := by decide +kernel
theorem dX4_walker_80 : decode cX4_walker 80 = .ok (.invokevirtual 132, 3) := by decide +kernel
theorem dX4_walker_83 : decode cX4_walker 83 = .ok (.ireturn, 1) := by decide +kernel
theorem dX4_walker_84 : decode cX4_walker 84 = .ok (.aload_n 0, 1) := by decide +kernel
theorem dX4_walker_85 : decode cX4_walker 85 = .ok (.getfield 28, 3) := by decide +kernel
theorem dX4_walker_88 : decode cX4_walker 88 = .ok (.iload_n 1, 1) := by decide +kernel
theorem dX4_walker_89 : decode cX4_walker 89 = .ok (.invokevirtual 135, 3) := by decide +kernel
theorem dX4_walker_92 : decode cX4_walker 92 = .ok (.ireturn, 1) := by decide +kernel
theorem dX4_walker_93 : decode cX4_walker 93 = .ok (.bipush (-2), 2) := by decide +kernel
theorem dX4_walker_95 : decode cX4_walker 95 = .ok (.ireturn, 1) := by decide +kernel
set_option maxRecDepth 20000 in
theorem ggX4_minute_X1_everybody : GoodIn wsX4_minute wsX1_everybody := goodIn_r _ [7, 8, 111, 112, 113, 114, 115] (by decide +kernel) (by decide +kernel)
set_option maxRecDepth 20000 in
theorem gX4_minute_X1_everybody : GoodIn wsX4_minute (wsV RX4 104 RX1 yX1_everybody wsX1_everybody) := goodIn_app (goodIn_of _ (by decide +kernel)) ggX4_minute_X1_everybody
set_option maxRecDepth 20000 in
theorem ggX4_minute_X4_within : GoodIn wsX4_minute wsX4_within := goodIn_r _ [12] (by decide +kernel) (by decide +kernel)
set_option maxRecDepth 20000 in
theorem gX4_minute_X4_within : GoodIn wsX4_minute (va_wsS RX4 61 yX4_within wsX4_within) := goodIn_app (goodIn_of _ (by decide +kernel)) ggX4_minute_X4_within
set_option maxRecDepth 20000 in
theorem ggX4_minute_X3_isOut : GoodIn wsX4_minute wsX3_isOut := goodIn_r _ [17, 18, 19, 20, 21, 22, 6, 23, 24, 116, 117, 118, 119, 120, 111, 112, 113, 114, 115] (by decide +kernel) (by decide +kernel)
set_option maxRecDepth 20000 in
theorem gX4_minute_X3_isOut : GoodIn wsX4_minute (wsV RX4 116 RX3 yX3_isOut wsX3_isOut) := goodIn_app (goodIn_of _ (by decide +kernel)) ggX4_minute_X3_isOut
set_option maxRecDepth 20000 in
theorem ggX4_minute_X4_remember : GoodIn wsX4_minute wsX4_remember := goodIn_r _ [28, 29, 30, 31, 32, 33, 34, 2, 35, 36, 37, 16, 38, 18, 39, 40, 100, 101, 102, 103, 104, 105, 106, 107, 108, 109, 110, 116, 117, 118, 119, 120] (by decide +kernel) (by decide +kernel)
set_option maxRecDepth 20000 in
theorem gX4_minute_X4_remember : GoodIn wsX4_minute (wsV RX4 138 RX4 yX4_remember wsX4_remember) := goodIn_app (goodIn_of _ (by decide +kernel)) ggX4_minute_X4_remember
set_option maxRecDepth 20000 in
theorem ggX4_minute_X3_step : GoodIn wsX4_minute wsX3_step := goodIn_r _ [44, 19, 18, 45, 46, 47, 16, 48, 40, 49, 50, 51, 52, 53, 54, 55, 56, 57, 58, 59, 60, 61, 62, 63, 6, 64, 65, 66, 67, 68, 69, 70, 71, 72, 73, 74, 75, 76, 77, 78, 79, 39, 80, 81, 82, 83, 84, 85, 86, 87, 88, 89, 90, 91, 92, 93, 94, 95, 96, 97, 98, 99, 116, 117, 118, 119, 120, 111, 112, 113, 114, 115] (by decide +kernel) (by decide +kernel)
set_option maxRecDepth 20000 in
theorem gX4_minute_X3_step : GoodIn wsX4_minute (wsV RX4 141 RX3 yX3_step wsX3_step) := goodIn_app (goodIn_of _ (by decide +kernel)) ggX4_minute_X3_step
theorem dX4_minute_0 : decode cX4_minute 0 = .ok (.iload_n 1, 1) := by decide +kernel
theorem dX4_minute_1 : decode cX4_minute 1 = .ok (.iconst 0, 1) := by decide +kernel
theorem dX4_minute_2 : decode cX4_minute 2 = .ok (.aload_n 0, 1) := by decide +kernel
theorem dX4_minute_3 : decode cX4_minute 3 = .ok (.getfield 19, 3) := by decide +kernel
theorem dX4_minute_6 : decode cX4_minute 6 = .ok (.invokevirtual 104, 3) := by decide +kernel
theorem dX4_minute_9 : decode cX4_minute 9 = .ok (.invokestatic 61, 3) := by decide +kernel
theorem dX4_minute_12 : decode cX4_minute 12 = .ok (.ifCond .ne 6, 3) := by decide +kernel
theorem dX4_minute_15 : decode cX4_minute 15 = .ok (.bipush (-2), 2) := by decide +kernel
theorem dX4_minute_17 : decode cX4_minute 17 = .ok (.ireturn, 1) := by decide +kernel
theorem dX4_minute_18 : decode cX4_minute 18 = .ok (.aload_n 0, 1) := by decide +kernel
theorem dX4_minute_19 : decode cX4_minute 19 = .ok (.getfield 28, 3) := by decide +kernel
theorem dX4_minute_22 : decode cX4_minute 22 = .ok (.invokevirtual 116, 3) := by decide +kernel
theorem dX4_minute_25 : decode cX4_minute 25 = .ok (.ifCond .eq 6, 3) := by decide +kernel
theorem dX4_minute_28 : decode cX4_minute 28 = .ok (.bipush (-3), 2) := by decide +kernel
theorem dX4_minute_30 : decode cX4_minute 30 = .ok (.ireturn, 1) := by decide +kernel
theorem dX4_minute_31 : decode cX4_minute 31 = .ok (.aload_n 0, 1) := by decide +kernel
theorem dX4_minute_32 : decode cX4_minute 32 = .ok (.invokevirtual 138, 3) := by decide +kernel
theorem dX4_minute_35 : decode cX4_minute 35 = .ok (.aload_n 0, 1) := by decide +kernel
theorem dX4_minute_36 : decode cX4_minute 36 = .ok (.getfield 28, 3) := by decide +kernel
theorem dX4_minute_39 : decode cX4_minute 39 = .ok (.iload_n 1, 1) := by decide +kernel
theorem dX4_minute_40 : decode cX4_minute 40 = .ok (.invokevirtual 141, 3) := by decide +kernel
theorem dX4_minute_43 : decode cX4_minute 43 = .ok (.ireturn, 1) := by decide +kernel
set_option maxRecDepth 20000 in
theorem ggX4_change_X4_within : GoodIn wsX4_change wsX4_within := goodIn_r _ [5] (by decide +kernel) (by decide +kernel)
set_option maxRecDepth 20000 in
theorem gX4_change_X4_within : GoodIn wsX4_change (va_wsS RX4 61 yX4_within wsX4_within) := goodIn_app (goodIn_of _ (by decide +kernel)) ggX4_change_X4_within
set_option maxRecDepth 20000 in
theorem ggX4_change_X3_isOut : GoodIn wsX4_change wsX3_isOut := goodIn_r _ [10, 11, 12, 13, 14, 15, 16, 17, 18, 85, 86, 87, 88, 89, 90, 91, 92, 93, 94] (by decide +kernel) (by decide +kernel)
set_option maxRecDepth 20000 in
theorem gX4_change_X3_isOut : GoodIn wsX4_change (wsV RX4 116 RX3 yX3_isOut wsX3_isOut) := goodIn_app (goodIn_of _ (by decide +kernel)) ggX4_change_X3_isOut
set_option maxRecDepth 20000 in
theorem ggX4_change_X3_size : GoodIn wsX4_change wsX3_size := goodIn_r _ [22, 23, 24, 25, 26, 27, 28, 29, 30, 85, 86, 87, 88, 89] (by decide +kernel) (by decide +kernel)
set_option maxRecDepth 20000 in
theorem gX4_change_X3_size : GoodIn wsX4_change (wsV RX4 144 RX3 yX3_size wsX3_size) := goodIn_app (goodIn_of _ (by decide +kernel)) ggX4_change_X3_size
set_option maxRecDepth 20000 in
theorem ggX4_change_X4_remember : GoodIn wsX4_change wsX4_remember := goodIn_r _ [34, 35, 36, 37, 38, 39, 40, 1, 41, 42, 43, 9, 44, 11, 45, 23, 74, 75, 76, 77, 78, 79, 80, 81, 82, 83, 84, 85, 86, 87, 88, 89] (by decide +kernel) (by decide +kernel)
set_option maxRecDepth 20000 in
theorem gX4_change_X4_remember : GoodIn wsX4_change (wsV RX4 138 RX4 yX4_remember wsX4_remember) := goodIn_app (goodIn_of _ (by decide +kernel)) ggX4_change_X4_remember
set_option maxRecDepth 20000 in
theorem ggX4_change_X3_changePlaces : GoodIn wsX4_change wsX3_changePlaces := goodIn_r _ [49, 23, 50, 51, 26, 52, 28, 29, 30, 53, 54, 55, 56, 57, 58, 9, 59, 60, 61, 62, 63, 64, 45, 65, 85, 86, 87, 88, 89] (by decide +kernel) (by decide +kernel)
set_option maxRecDepth 20000 in
theorem gX4_change_X3_changePlaces : GoodIn wsX4_change (wsV RX4 147 RX3 yX3_changePlaces wsX3_changePlaces) := goodIn_app (goodIn_of _ (by decide +kernel)) ggX4_change_X3_changePlaces
set_option maxRecDepth 20000 in
theorem ggX4_change_X3_row : GoodIn wsX4_change wsX3_row := goodIn_r _ [69, 23, 85, 86, 87, 88, 89] (by decide +kernel) (by decide +kernel)
set_option maxRecDepth 20000 in
theorem gX4_change_X3_row : GoodIn wsX4_change (wsV RX4 107 RX3 yX3_row wsX3_row) := goodIn_app (goodIn_of _ (by decide +kernel)) ggX4_change_X3_row
set_option maxRecDepth 20000 in
theorem ggX4_change_X0_figures : GoodIn wsX4_change wsX0_figures := goodIn_r _ [72, 73, 25, 26, 27, 28, 29, 30] (by decide +kernel) (by decide +kernel)
set_option maxRecDepth 20000 in
theorem gX4_change_X0_figures : GoodIn wsX4_change (va_wsS RX4 110 yX0_figures wsX0_figures) := goodIn_app (goodIn_of _ (by decide +kernel)) ggX4_change_X0_figures
theorem dX4_change_0 : decode cX4_change 0 = .ok (.iload_n 1, 1) := by decide +kernel
theorem dX4_change_1 : decode cX4_change 1 = .ok (.iconst 0, 1) := by decide +kernel
theorem dX4_change_2 : decode cX4_change 2 = .ok (.iconst 3, 1) := by decide +kernel
theorem dX4_change_3 : decode cX4_change 3 = .ok (.invokestatic 61, 3) := by decide +kernel
theorem dX4_change_6 : decode cX4_change 6 = .ok (.ifCond .ne 6, 3) := by decide +kernel
theorem dX4_change_9 : decode cX4_change 9 = .ok (.bipush (-2), 2) := by decide +kernel
theorem dX4_change_11 : decode cX4_change 11 = .ok (.ireturn, 1) := by decide +kernel
theorem dX4_change_12 : decode cX4_change 12 = .ok (.aload_n 0, 1) := by decide +kernel
theorem dX4_change_13 : decode cX4_change 13 = .ok (.getfield 28, 3) := by decide +kernel
theorem dX4_change_16 : decode cX4_change 16 = .ok (.invokevirtual 116, 3) := by decide +kernel
theorem dX4_change_19 : decode cX4_change 19 = .ok (.ifCond .ne 16, 3) := by decide +kernel
theorem dX4_change_22 : decode cX4_change 22 = .ok (.iload_n 1, 1) := by decide +kernel
theorem dX4_change_23 : decode cX4_change 23 = .ok (.iconst 1, 1) := by decide +kernel
theorem dX4_change_24 : decode cX4_change 24 = .ok (.iadd, 1) := by decide +kernel
theorem dX4_change_25 : decode cX4_change 25 = .ok (.aload_n 0, 1) := by decide +kernel
theorem dX4_change_26 : decode cX4_change 26 = .ok (.getfield 28, 3) := by decide +kernel
theorem dX4_change_29 : decode cX4_change 29 = .ok (.invokevirtual 144, 3) := by decide +kernel
theorem dX4_change_32 : decode cX4_change 32 = .ok (.if_icmp .lt 6, 3) := by decide +kernel
theorem dX4_change_35 : decode cX4_change 35 = .ok (.bipush (-3), 2) := by decide +kernel
theorem dX4_change_37 : decode cX4_change 37 = .ok (.ireturn, 1) := by decide +kernel
theorem dX4_change_38 : decode cX4_change 38 = .ok (.aload_n 0, 1) := by decide +kernel
theorem dX4_change_39 : decode cX4_change 39 = .ok (.invokevirtual 138, 3) := by decide +kernel
theorem dX4_change_42 : decode cX4_change 42 = .ok (.aload_n 0, 1) := by decide +kernel
theorem dX4_change_43 : decode cX4_change 43 = .ok (.getfield 28, 3) := by decide +kernel
theorem dX4_change_46 : decode cX4_change 46 = .ok (.iload_n 1, 1) := by decide +kernel
theorem dX4_change_47 : decode cX4_change 47 = .ok (.invokevirtual 147, 3) := by decide +kernel
theorem dX4_change_50 : decode cX4_change 50 = .ok (.aload_n 0, 1) := by decide +kernel
theorem dX4_change_51 : decode cX4_change 51 = .ok (.getfield 28, 3) := by decide +kernel
theorem dX4_change_54 : decode cX4_change 54 = .ok (.invokevirtual 107, 3) := by decide +kernel
theorem dX4_change_57 : decode cX4_change 57 = .ok (.invokestatic 110, 3) := by decide +kernel
theorem dX4_change_60 : decode cX4_change 60 = .ok (.ireturn, 1) := by decide +kernel
set_option maxRecDepth 20000 in
theorem ggX4_rest_X3_isOut : GoodIn wsX4_rest wsX3_isOut := goodIn_r _ [6, 7, 8, 9, 10, 11, 12, 13, 14, 74, 75, 76, 77, 78, 79, 80, 81, 82, 83] (by decide +kernel) (by decide +kernel)
set_option maxRecDepth 20000 in
theorem gX4_rest_X3_isOut : GoodIn wsX4_rest (wsV RX4 116 RX3 yX3_isOut wsX3_isOut) := goodIn_app (goodIn_of _ (by decide +kernel)) ggX4_rest_X3_isOut
set_option maxRecDepth 20000 in
theorem ggX4_rest_X4_remember : GoodIn wsX4_rest wsX4_remember := goodIn_r _ [19, 20, 21, 22, 23, 24, 25, 1, 26, 27, 28, 5, 29, 7, 30, 31, 63, 64, 65, 66, 67, 68, 69, 70, 71, 72, 73, 74, 75, 76, 77, 78] (by decide +kernel) (by decide +kernel)
set_option maxRecDepth 20000 in
theorem gX4_rest_X4_remember : GoodIn wsX4_rest (wsV RX4 138 RX4 yX4_remember wsX4_remember) := goodIn_app (goodIn_of _ (by decide +kernel)) ggX4_rest_X4_remember
set_option maxRecDepth 20000 in
theorem ggX4_rest_X3_calm : GoodIn wsX4_rest wsX3_calm := goodIn_r _ [35, 36, 37, 38, 5, 39, 31, 40, 41, 42, 43, 44, 45, 46, 47, 48, 49, 50, 51, 52, 53, 54, 55, 30, 56, 57, 58, 59, 60, 61, 62, 74, 75, 76, 77, 78] (by decide +kernel) (by decide +kernel)
set_option maxRecDepth 20000 in
theorem gX4_rest_X3_calm : GoodIn wsX4_rest (wsV RX4 151 RX3 yX3_calm wsX3_calm) := goodIn_app (goodIn_of _ (by decide +kernel)) ggX4_rest_X3_calm
theorem dX4_rest_0 : decode cX4_rest 0 = .ok (.aload_n 0, 1) := by decide +kernel
theorem dX4_rest_1 : decode cX4_rest 1 = .ok (.getfield 28, 3) := by decide +kernel
theorem dX4_rest_4 : decode cX4_rest 4 = .ok (.invokevirtual 116, 3) := by decide +kernel
theorem dX4_rest_7 : decode cX4_rest 7 = .ok (.ifCond .eq 6, 3) := by decide +kernel
theorem dX4_rest_10 : decode cX4_rest 10 = .ok (.bipush (-3), 2) := by decide +kernel
theorem dX4_rest_12 : decode cX4_rest 12 = .ok (.ireturn, 1) := by decide +kernel
theorem dX4_rest_13 : decode cX4_rest 13 = .ok (.aload_n 0, 1) := by decide +kernel
theorem dX4_rest_14 : decode cX4_rest 14 = .ok (.invokevirtual 138, 3) := by decide +kernel
theorem dX4_rest_17 : decode cX4_rest 17 = .ok (.aload_n 0, 1) := by decide +kernel
theorem dX4_rest_18 : decode cX4_rest 18 = .ok (.getfield 28, 3) := by decide +kernel
theorem dX4_rest_21 : decode cX4_rest 21 = .ok (.invokevirtual 151, 3) := by decide +kernel
theorem dX4_rest_24 : decode cX4_rest 24 = .ok (.ireturn, 1) := by decide +kernel
set_option maxRecDepth 20000 in
theorem ggX4_undo_X4_within : GoodIn wsX4_undo wsX4_within := goodIn_r _ [7] (by decide +kernel) (by decide +kernel)
set_option maxRecDepth 20000 in
theorem gX4_undo_X4_within : GoodIn wsX4_undo (va_wsS RX4 61 yX4_within wsX4_within) := goodIn_app (goodIn_of _ (by decide +kernel)) ggX4_undo_X4_within
set_option maxRecDepth 20000 in
theorem ggX4_undo_X3_become : GoodIn wsX4_undo wsX3_become := goodIn_r _ [12, 13, 14, 15, 16, 28, 29, 30, 31, 32] (by decide +kernel) (by decide +kernel)
set_option maxRecDepth 20000 in
theorem gX4_undo_X3_become : GoodIn wsX4_undo (wsV RX4 154 RX3 yX3_become wsX3_become) := goodIn_app (goodIn_of _ (by decide +kernel)) ggX4_undo_X3_become
theorem dX4_undo_0 : decode cX4_undo 0 = .ok (.aload_n 0, 1) := by decide +kernel
theorem dX4_undo_1 : decode cX4_undo 1 = .ok (.getfield 39, 3) := by decide +kernel
theorem dX4_undo_4 : decode cX4_undo 4 = .ok (.iconst 1, 1) := by decide +kernel
theorem dX4_undo_5 : decode cX4_undo 5 = .ok (.aload_n 0, 1) := by decide +kernel
theorem dX4_undo_6 : decode cX4_undo 6 = .ok (.getfield 35, 3) := by decide +kernel
theorem dX4_undo_9 : decode cX4_undo 9 = .ok (.arraylength, 1) := by decide +kernel
theorem dX4_undo_10 : decode cX4_undo 10 = .ok (.invokestatic 61, 3) := by decide +kernel
theorem dX4_undo_13 : decode cX4_undo 13 = .ok (.ifCond .ne 6, 3) := by decide +kernel
theorem dX4_undo_16 : decode cX4_undo 16 = .ok (.bipush (-3), 2) := by decide +kernel
theorem dX4_undo_18 : decode cX4_undo 18 = .ok (.ireturn, 1) := by decide +kernel
theorem dX4_undo_19 : decode cX4_undo 19 = .ok (.aload_n 0, 1) := by decide +kernel
theorem dX4_undo_20 : decode cX4_undo 20 = .ok (.dup, 1) := by decide +kernel
theorem dX4_undo_21 : decode cX4_undo 21 = .ok (.getfield 39, 3) := by decide +kernel
theorem dX4_undo_24 : decode cX4_undo 24 = .ok (.iconst 1, 1) := by decide +kernel
theorem dX4_undo_25 : decode cX4_undo 25 = .ok (.isub, 1) := by decide +kernel
theorem dX4_undo_26 : decode cX4_undo 26 = .ok (.putfield 39, 3) := by decide +kernel
theorem dX4_undo_29 : decode cX4_undo 29 = .ok (.aload_n 0, 1) := by decide +kernel
theorem dX4_undo_30 : decode cX4_undo 30 = .ok (.getfield 28, 3) := by decide +kernel
theorem dX4_undo_33 : decode cX4_undo 33 = .ok (.aload_n 0, 1) := by decide +kernel
theorem dX4_undo_34 : decode cX4_undo 34 = .ok (.getfield 35, 3) := by decide +kernel
theorem dX4_undo_37 : decode cX4_undo 37 = .ok (.aload_n 0, 1) := by decide +kernel
theorem dX4_undo_38 : decode cX4_undo 38 = .ok (.getfield 39, 3) := by decide +kernel
theorem dX4_undo_41 : decode cX4_undo 41 = .ok (.laload, 1) := by decide +kernel
theorem dX4_undo_42 : decode cX4_undo 42 = .ok (.invokevirtual 154, 3) := by decide +kernel
theorem dX4_undo_45 : decode cX4_undo 45 = .ok (.aload_n 0, 1) := by decide +kernel
theorem dX4_undo_46 : decode cX4_undo 46 = .ok (.getfield 39, 3) := by decide +kernel
theorem dX4_undo_49 : decode cX4_undo 49 = .ok (.ireturn, 1) := by decide +kernel
set_option maxRecDepth 20000 in
theorem ggX4_remember_X3_state : GoodIn wsX4_remember wsX3_state := goodIn_r _ [12, 13, 14, 15, 27, 28, 29, 30, 31] (by decide +kernel) (by decide +kernel)
set_option maxRecDepth 20000 in
theorem gX4_remember_X3_state : GoodIn wsX4_remember (wsV RX4 164 RX3 yX3_state wsX3_state) := goodIn_app (goodIn_of _ (by decide +kernel)) ggX4_remember_X3_state
theorem dX4_remember_0 : decode cX4_remember 0 = .ok (.aload_n 0, 1) := by decide +kernel
theorem dX4_remember_1 : decode cX4_remember 1 = .ok (.getfield 39, 3) := by decide +kernel
theorem dX4_remember_4 : decode cX4_remember 4 = .ok (.aload_n 0, 1) := by decide +kernel
theorem dX4_remember_5 : decode cX4_remember 5 = .ok (.getfield 35, 3) := by decide +kernel
theorem dX4_remember_8 : decode cX4_remember 8 = .ok (.arraylength, 1) := by decide +kernel
theorem dX4_remember_9 : decode cX4_remember 9 = .ok (.if_icmp .lt 34, 3) := by decide +kernel
theorem dX4_remember_12 : decode cX4_remember 12 = .ok (.aload_n 0, 1) := by decide +kernel
theorem dX4_remember_13 : decode cX4_remember 13 = .ok (.getfield 35, 3) := by decide +kernel
theorem dX4_remember_16 : decode cX4_remember 16 = .ok (.iconst 1, 1) := by decide +kernel
theorem dX4_remember_17 : decode cX4_remember 17 = .ok (.aload_n 0, 1) := by decide +kernel
theorem dX4_remember_18 : decode cX4_remember 18 = .ok (.getfield 35, 3) := by decide +kernel
theorem dX4_remember_21 : decode cX4_remember 21 = .ok (.iconst 0, 1) := by decide +kernel
theorem dX4_remember_22 : decode cX4_remember 22 = .ok (.aload_n 0, 1) := by decide +kernel
theorem dX4_remember_23 : decode cX4_remember 23 = .ok (.getfield 35, 3) := by decide +kernel
theorem dX4_remember_26 : decode cX4_remember 26 = .ok (.arraylength, 1) := by decide +kernel
theorem dX4_remember_27 : decode cX4_remember 27 = .ok (.iconst 1, 1) := by decide +kernel
theorem dX4_remember_28 : decode cX4_remember 28 = .ok (.isub, 1) := by decide +kernel
theorem dX4_remember_29 : decode cX4_remember 29 = .ok (.invokestatic 158, 3) := by decide +kernel
theorem dX4_remember_32 : decode cX4_remember 32 = .ok (.aload_n 0, 1) := by decide +kernel
theorem dX4_remember_33 : decode cX4_remember 33 = .ok (.aload_n 0, 1) := by decide +kernel
theorem dX4_remember_34 : decode cX4_remember 34 = .ok (.getfield 35, 3) := by decide +kernel
theorem dX4_remember_37 : decode cX4_remember 37 = .ok (.arraylength, 1) := by decide +kernel
theorem dX4_remember_38 : decode cX4_remember 38 = .ok (.iconst 1, 1) := by decide +kernel
theorem dX4_remember_39 : decode cX4_remember 39 = .ok (.isub, 1) := by decide +kernel
theorem dX4_remember_40 : decode cX4_remember 40 = .ok (.putfield 39, 3) := by decide +kernel
theorem dX4_remember_43 : decode cX4_remember 43 = .ok (.aload_n 0, 1) := by decide +kernel
theorem dX4_remember_44 : decode cX4_remember 44 = .ok (.getfield 39, 3) := by decide +kernel
theorem dX4_remember_47 : decode cX4_remember 47 = .ok (.ifCond .lt 29, 3) := by decide +kernel
theorem dX4_remember_50 : decode cX4_remember 50 = .ok (.aload_n 0, 1) := by decide +kernel
theorem dX4_remember_51 : decode cX4_remember 51 = .ok (.getfield 35, 3) := by decide +kernel
theorem dX4_remember_54 : decode cX4_remember 54 = .ok (.aload_n 0, 1) := by decide +kernel
theorem dX4_remember_55 : decode cX4_remember 55 = .ok (.getfield 39, 3) := by decide +kernel
theorem dX4_remember_58 : decode cX4_remember 58 = .ok (.aload_n 0, 1) := by decide +kernel
theorem dX4_remember_59 : decode cX4_remember 59 = .ok (.getfield 28, 3) := by decide +kernel
theorem dX4_remember_62 : decode cX4_remember 62 = .ok (.invokevirtual 164, 3) := by decide +kernel
theorem dX4_remember_65 : decode cX4_remember 65 = .ok (.lastore, 1) := by decide +kernel
theorem dX4_remember_66 : decode cX4_remember 66 = .ok (.aload_n 0, 1) := by decide +kernel
theorem dX4_remember_67 : decode cX4_remember 67 = .ok (.dup, 1) := by decide +kernel
theorem dX4_remember_68 : decode cX4_remember 68 = .ok (.getfield 39, 3) := by decide +kernel
theorem dX4_remember_71 : decode cX4_remember 71 = .ok (.iconst 1, 1) := by decide +kernel
theorem dX4_remember_72 : decode cX4_remember 72 = .ok (.iadd, 1) := by decide +kernel
theorem dX4_remember_73 : decode cX4_remember 73 = .ok (.putfield 39, 3) := by decide +kernel
theorem dX4_remember_76 : decode cX4_remember 76 = .ok (.return_, 1) := by decide +kernel
set_option maxRecDepth 20000 in
theorem ggX4_left_X4_isSong : GoodIn wsX4_left wsX4_isSong := goodIn_r _ [6, 7, 8, 9, 10, 5, 11] (by decide +kernel) (by decide +kernel)
set_option maxRecDepth 20000 in
theorem gX4_left_X4_isSong : GoodIn wsX4_left (va_wsS RX4 168 yX4_isSong wsX4_isSong) := goodIn_app (goodIn_of _ (by decide +kernel)) ggX4_left_X4_isSong
set_option maxRecDepth 20000 in
theorem ggX4_left_X3_state : GoodIn wsX4_left wsX3_state := goodIn_r _ [16, 17, 18, 19, 122, 123, 124, 125, 126] (by decide +kernel) (by decide +kernel)
set_option maxRecDepth 20000 in
theorem gX4_left_X3_state : GoodIn wsX4_left (wsV RX4 164 RX3 yX3_state wsX3_state) := goodIn_app (goodIn_of _ (by decide +kernel)) ggX4_left_X3_state
set_option maxRecDepth 20000 in
theorem ggX4_left_X3_become : GoodIn wsX4_left wsX3_become := goodIn_r _ [23, 24, 19, 18, 17, 122, 123, 124, 125, 126] (by decide +kernel) (by decide +kernel)
set_option maxRecDepth 20000 in
theorem gX4_left_X3_become : GoodIn wsX4_left (wsV RX4 154 RX3 yX3_become wsX3_become) := goodIn_app (goodIn_of _ (by decide +kernel)) ggX4_left_X3_become
set_option maxRecDepth 20000 in
theorem ggX4_left_X3_sing : GoodIn wsX4_left wsX3_sing := goodIn_r _ [28, 29, 30, 31, 32, 15, 33, 17, 34, 35, 36, 37, 38, 39, 40, 41, 42, 43, 44, 45, 46, 47, 48, 49, 50, 51, 52, 19, 53, 54, 55, 56, 57, 58, 59, 60, 61, 62, 63, 64, 65, 66, 67, 68, 69, 70, 71, 72, 73, 74, 75, 76, 77, 78, 79, 80, 81, 82, 83, 18, 84, 85, 86, 87, 88, 89, 90, 91, 92, 93, 94, 95, 96, 97, 98, 99, 100, 101, 102, 122, 123, 124, 125, 126, 127, 128, 129, 130, 131] (by decide +kernel) (by decide +kernel)
set_option maxRecDepth 20000 in
theorem gX4_left_X3_sing : GoodIn wsX4_left (wsV RX4 172 RX3 yX3_sing wsX3_sing) := goodIn_app (goodIn_of _ (by decide +kernel)) ggX4_left_X3_sing
set_option maxRecDepth 20000 in
theorem ggX4_left_X3_members : GoodIn wsX4_left wsX3_members := goodIn_r _ [106, 19, 107, 108, 55, 109, 110, 54, 56, 57, 58, 59, 122, 123, 124, 125, 126] (by decide +kernel) (by decide +kernel)
set_option maxRecDepth 20000 in
theorem gX4_left_X3_members : GoodIn wsX4_left (wsV RX4 101 RX3 yX3_members wsX3_members) := goodIn_app (goodIn_of _ (by decide +kernel)) ggX4_left_X3_members
theorem dX4_left_0 : decode cX4_left 0 = .ok (.iload_n 1, 1) := by decide +kernel
theorem dX4_left_1 : decode cX4_left 1 = .ok (.lload_n 2, 1) := by decide +kernel
theorem dX4_left_2 : decode cX4_left 2 = .ok (.invokestatic 168, 3) := by decide +kernel
theorem dX4_left_5 : decode cX4_left 5 = .ok (.ifCond .ne 6, 3) := by decide +kernel
theorem dX4_left_8 : decode cX4_left 8 = .ok (.bipush (-2), 2) := by decide +kernel
theorem dX4_left_10 : decode cX4_left 10 = .ok (.ireturn, 1) := by decide +kernel
theorem dX4_left_11 : decode cX4_left 11 = .ok (.aload_n 0, 1) := by decide +kernel
theorem dX4_left_12 : decode cX4_left 12 = .ok (.getfield 32, 3) := by decide +kernel
theorem dX4_left_15 : decode cX4_left 15 = .ok (.aload_n 0, 1) := by decide +kernel
theorem dX4_left_16 : decode cX4_left 16 = .ok (.getfield 28, 3) := by decide +kernel
theorem dX4_left_19 : decode cX4_left 19 = .ok (.invokevirtual 164, 3) := by decide +kernel
theorem dX4_left_22 : decode cX4_left 22 = .ok (.invokevirtual 154, 3) := by decide +kernel
theorem dX4_left_25 : decode cX4_left 25 = .ok (.aload_n 0, 1) := by decide +kernel
theorem dX4_left_26 : decode cX4_left 26 = .ok (.getfield 32, 3) := by decide +kernel
theorem dX4_left_29 : decode cX4_left 29 = .ok (.iload_n 1, 1) := by decide +kernel
theorem dX4_left_30 : decode cX4_left 30 = .ok (.lload_n 2, 1) := by decide +kernel
theorem dX4_left_31 : decode cX4_left 31 = .ok (.invokevirtual 172, 3) := by decide +kernel
theorem dX4_left_34 : decode cX4_left 34 = .ok (.pop, 1) := by decide +kernel
theorem dX4_left_35 : decode cX4_left 35 = .ok (.aload_n 0, 1) := by decide +kernel
theorem dX4_left_36 : decode cX4_left 36 = .ok (.getfield 32, 3) := by decide +kernel
theorem dX4_left_39 : decode cX4_left 39 = .ok (.invokevirtual 101, 3) := by decide +kernel
theorem dX4_left_42 : decode cX4_left 42 = .ok (.ireturn, 1) := by decide +kernel
set_option maxRecDepth 20000 in
theorem ggX4_firstTurn_X4_isSong : GoodIn wsX4_firstTurn wsX4_isSong := goodIn_r _ [6, 7, 8, 9, 10, 5, 11] (by decide +kernel) (by decide +kernel)
set_option maxRecDepth 20000 in
theorem gX4_firstTurn_X4_isSong : GoodIn wsX4_firstTurn (va_wsS RX4 168 yX4_isSong wsX4_isSong) := goodIn_app (goodIn_of _ (by decide +kernel)) ggX4_firstTurn_X4_isSong
set_option maxRecDepth 20000 in
theorem ggX4_firstTurn_X3_state : GoodIn wsX4_firstTurn wsX3_state := goodIn_r _ [16, 17, 18, 19, 114, 115, 116, 117, 118] (by decide +kernel) (by decide +kernel)
set_option maxRecDepth 20000 in
theorem gX4_firstTurn_X3_state : GoodIn wsX4_firstTurn (wsV RX4 164 RX3 yX3_state wsX3_state) := goodIn_app (goodIn_of _ (by decide +kernel)) ggX4_firstTurn_X3_state
set_option maxRecDepth 20000 in
theorem ggX4_firstTurn_X3_become : GoodIn wsX4_firstTurn wsX3_become := goodIn_r _ [23, 24, 19, 18, 17, 114, 115, 116, 117, 118] (by decide +kernel) (by decide +kernel)
set_option maxRecDepth 20000 in
theorem gX4_firstTurn_X3_become : GoodIn wsX4_firstTurn (wsV RX4 154 RX3 yX3_become wsX3_become) := goodIn_app (goodIn_of _ (by decide +kernel)) ggX4_firstTurn_X3_become
set_option maxRecDepth 20000 in
theorem ggX4_firstTurn_X3_sing : GoodIn wsX4_firstTurn wsX3_sing := goodIn_r _ [28, 29, 30, 31, 32, 15, 33, 17, 34, 35, 36, 37, 38, 39, 40, 41, 42, 43, 44, 45, 46, 47, 48, 49, 50, 51, 52, 19, 53, 54, 55, 56, 57, 58, 59, 60, 61, 62, 63, 64, 65, 66, 67, 68, 69, 70, 71, 72, 73, 74, 75, 76, 77, 78, 79, 80, 81, 82, 83, 18, 84, 85, 86, 87, 88, 89, 90, 91, 92, 93, 94, 95, 96, 97, 98, 99, 100, 101, 102, 114, 115, 116, 117, 118, 119, 120, 121, 122, 123] (by decide +kernel) (by decide +kernel)
set_option maxRecDepth 20000 in
theorem gX4_firstTurn_X3_sing : GoodIn wsX4_firstTurn (wsV RX4 172 RX3 yX3_sing wsX3_sing) := goodIn_app (goodIn_of _ (by decide +kernel)) ggX4_firstTurn_X3_sing
theorem dX4_firstTurn_0 : decode cX4_firstTurn 0 = .ok (.iload_n 1, 1) := by decide +kernel
theorem dX4_firstTurn_1 : decode cX4_firstTurn 1 = .ok (.lload_n 2, 1) := by decide +kernel
theorem dX4_firstTurn_2 : decode cX4_firstTurn 2 = .ok (.invokestatic 168, 3) := by decide +kernel
theorem dX4_firstTurn_5 : decode cX4_firstTurn 5 = .ok (.ifCond .ne 6, 3) := by decide +kernel
theorem dX4_firstTurn_8 : decode cX4_firstTurn 8 = .ok (.bipush (-2), 2) := by decide +kernel
theorem dX4_firstTurn_10 : decode cX4_firstTurn 10 = .ok (.ireturn, 1) := by decide +kernel
theorem dX4_firstTurn_11 : decode cX4_firstTurn 11 = .ok (.aload_n 0, 1) := by decide +kernel
theorem dX4_firstTurn_12 : decode cX4_firstTurn 12 = .ok (.getfield 32, 3) := by decide +kernel
theorem dX4_firstTurn_15 : decode cX4_firstTurn 15 = .ok (.aload_n 0, 1) := by decide +kernel
theorem dX4_firstTurn_16 : decode cX4_firstTurn 16 = .ok (.getfield 28, 3) := by decide +kernel
theorem dX4_firstTurn_19 : decode cX4_firstTurn 19 = .ok (.invokevirtual 164, 3) := by decide +kernel
theorem dX4_firstTurn_22 : decode cX4_firstTurn 22 = .ok (.invokevirtual 154, 3) := by decide +kernel
theorem dX4_firstTurn_25 : decode cX4_firstTurn 25 = .ok (.aload_n 0, 1) := by decide +kernel
theorem dX4_firstTurn_26 : decode cX4_firstTurn 26 = .ok (.getfield 32, 3) := by decide +kernel
theorem dX4_firstTurn_29 : decode cX4_firstTurn 29 = .ok (.iload_n 1, 1) := by decide +kernel
theorem dX4_firstTurn_30 : decode cX4_firstTurn 30 = .ok (.lload_n 2, 1) := by decide +kernel
theorem dX4_firstTurn_31 : decode cX4_firstTurn 31 = .ok (.invokevirtual 172, 3) := by decide +kernel
theorem dX4_firstTurn_34 : decode cX4_firstTurn 34 = .ok (.ireturn, 1) := by decide +kernel
set_option maxRecDepth 20000 in
theorem ggX4_order_X4_isSong : GoodIn wsX4_order wsX4_isSong := goodIn_r _ [5, 6, 7, 8, 9, 4, 10] (by decide +kernel) (by decide +kernel)
set_option maxRecDepth 20000 in
theorem gX4_order_X4_isSong : GoodIn wsX4_order (va_wsS RX4 168 yX4_isSong wsX4_isSong) := goodIn_app (goodIn_of _ (by decide +kernel)) ggX4_order_X4_isSong
set_option maxRecDepth 20000 in
theorem ggX4_order_X4_within : GoodIn wsX4_order wsX4_within := goodIn_r _ [10] (by decide +kernel) (by decide +kernel)
set_option maxRecDepth 20000 in
theorem gX4_order_X4_within : GoodIn wsX4_order (va_wsS RX4 61 yX4_within wsX4_within) := goodIn_app (goodIn_of _ (by decide +kernel)) ggX4_order_X4_within
set_option maxRecDepth 20000 in
theorem ggX4_order_X3_members : GoodIn wsX4_order wsX3_members := goodIn_r _ [15, 16, 17, 18, 19, 20, 21, 22, 23, 24, 25, 26, 139, 140, 141, 142, 143] (by decide +kernel) (by decide +kernel)
set_option maxRecDepth 20000 in
theorem gX4_order_X3_members : GoodIn wsX4_order (wsV RX4 101 RX3 yX3_members wsX3_members) := goodIn_app (goodIn_of _ (by decide +kernel)) ggX4_order_X3_members
set_option maxRecDepth 20000 in
theorem ggX4_order_X0_ascending : GoodIn wsX4_order wsX0_ascending := goodIn_r _ [29, 30, 31, 19, 32] (by decide +kernel) (by decide +kernel)
set_option maxRecDepth 20000 in
theorem gX4_order_X0_ascending : GoodIn wsX4_order (va_wsS RX4 176 yX0_ascending wsX0_ascending) := goodIn_app (goodIn_of _ (by decide +kernel)) ggX4_order_X0_ascending
set_option maxRecDepth 20000 in
theorem ggX4_order_X4_leftOf : GoodIn wsX4_order wsX4_leftOf := goodIn_r _ [36, 37, 1, 38, 39, 40, 14, 41, 42, 43, 44, 45, 46, 16, 47, 48, 49, 50, 51, 52, 53, 54, 55, 56, 57, 58, 59, 60, 61, 62, 63, 64, 65, 66, 67, 68, 69, 70, 71, 72, 73, 74, 75, 76, 22, 19, 23, 24, 25, 26, 77, 78, 79, 80, 81, 82, 83, 84, 85, 86, 87, 88, 89, 90, 91, 92, 93, 94, 95, 96, 97, 98, 99, 100, 101, 102, 103, 104, 105, 31, 32, 106, 107, 108, 109, 110, 111, 112, 113, 114, 115, 116, 117, 118, 128, 129, 130, 131, 132, 133, 134, 135, 136, 137, 138, 139, 140, 141, 142, 143, 144, 145, 146, 147, 148] (by decide +kernel) (by decide +kernel)
set_option maxRecDepth 20000 in
theorem gX4_order_X4_leftOf : GoodIn wsX4_order (wsV RX4 179 RX4 yX4_leftOf wsX4_leftOf) := goodIn_app (goodIn_of _ (by decide +kernel)) ggX4_order_X4_leftOf
set_option maxRecDepth 20000 in
theorem ggX4_order_X0_nextOrder : GoodIn wsX4_order wsX0_nextOrder := goodIn_r _ [121, 21, 22, 19, 23, 24, 25, 26, 122, 123, 124, 30, 31, 32] (by decide +kernel) (by decide +kernel)
set_option maxRecDepth 20000 in
theorem gX4_order_X0_nextOrder : GoodIn wsX4_order (va_wsS RX4 183 yX0_nextOrder wsX0_nextOrder) := goodIn_app (goodIn_of _ (by decide +kernel)) ggX4_order_X0_nextOrder
set_option maxRecDepth 20000 in
theorem ggX4_order_X0_figures : GoodIn wsX4_order wsX0_figures := goodIn_r _ [127, 21, 22, 19, 23, 24, 25, 26] (by decide +kernel) (by decide +kernel)
set_option maxRecDepth 20000 in
theorem gX4_order_X0_figures : GoodIn wsX4_order (va_wsS RX4 110 yX0_figures wsX0_figures) := goodIn_app (goodIn_of _ (by decide +kernel)) ggX4_order_X0_figures
theorem dX4_order_0 : decode cX4_order 0 = .ok (.iload_n 1, 1) := by decide +kernel
theorem dX4_order_1 : decode cX4_order 1 = .ok (.lload_n 2, 1) := by decide +kernel
theorem dX4_order_2 : decode cX4_order 2 = .ok (.invokestatic 168, 3) := by decide +kernel
theorem dX4_order_5 : decode cX4_order 5 = .ok (.ifCond .eq 13, 3) := by decide +kernel
theorem dX4_order_8 : decode cX4_order 8 = .ok (.iload 4, 2) := by decide +kernel
theorem dX4_order_10 : decode cX4_order 10 = .ok (.iconst 0, 1) := by decide +kernel
theorem dX4_order_11 : decode cX4_order 11 = .ok (.iconst 1, 1) := by decide +kernel
theorem dX4_order_12 : decode cX4_order 12 = .ok (.invokestatic 61, 3) := by decide +kernel
theorem dX4_order_15 : decode cX4_order 15 = .ok (.ifCond .ne 6, 3) := by decide +kernel
theorem dX4_order_18 : decode cX4_order 18 = .ok (.bipush (-2), 2) := by decide +kernel
theorem dX4_order_20 : decode cX4_order 20 = .ok (.ireturn, 1) := by decide +kernel
theorem dX4_order_21 : decode cX4_order 21 = .ok (.aload_n 0, 1) := by decide +kernel
theorem dX4_order_22 : decode cX4_order 22 = .ok (.getfield 28, 3) := by decide +kernel
theorem dX4_order_25 : decode cX4_order 25 = .ok (.invokevirtual 101, 3) := by decide +kernel
theorem dX4_order_28 : decode cX4_order 28 = .ok (.invokestatic 176, 3) := by decide +kernel
theorem dX4_order_31 : decode cX4_order 31 = .ok (.istore 5, 2) := by decide +kernel
theorem dX4_order_33 : decode cX4_order 33 = .ok (.aload_n 0, 1) := by decide +kernel
theorem dX4_order_34 : decode cX4_order 34 = .ok (.iload 5, 2) := by decide +kernel
theorem dX4_order_36 : decode cX4_order 36 = .ok (.iload_n 1, 1) := by decide +kernel
theorem dX4_order_37 : decode cX4_order 37 = .ok (.lload_n 2, 1) := by decide +kernel
theorem dX4_order_38 : decode cX4_order 38 = .ok (.invokevirtual 179, 3) := by decide +kernel
theorem dX4_order_41 : decode cX4_order 41 = .ok (.istore 6, 2) := by decide +kernel
theorem dX4_order_43 : decode cX4_order 43 = .ok (.iload 5, 2) := by decide +kernel
theorem dX4_order_45 : decode cX4_order 45 = .ok (.invokestatic 183, 3) := by decide +kernel
theorem dX4_order_48 : decode cX4_order 48 = .ok (.istore 7, 2) := by decide +kernel
theorem dX4_order_50 : decode cX4_order 50 = .ok (.iconst 1, 1) := by decide +kernel
theorem dX4_order_51 : decode cX4_order 51 = .ok (.istore 8, 2) := by decide +kernel
theorem dX4_order_53 : decode cX4_order 53 = .ok (.iload 8, 2) := by decide +kernel
theorem dX4_order_55 : decode cX4_order 55 = .ok (.bipush 120, 2) := by decide +kernel
theorem dX4_order_57 : decode cX4_order 57 = .ok (.if_icmp .ge 46, 3) := by decide +kernel
theorem dX4_order_60 : decode cX4_order 60 = .ok (.iload 7, 2) := by decide +kernel
theorem dX4_order_62 : decode cX4_order 62 = .ok (.ifCond .eq 41, 3) := by decide +kernel
theorem dX4_order_65 : decode cX4_order 65 = .ok (.aload_n 0, 1) := by decide +kernel
theorem dX4_order_66 : decode cX4_order 66 = .ok (.iload 7, 2) := by decide +kernel
theorem dX4_order_68 : decode cX4_order 68 = .ok (.iload_n 1, 1) := by decide +kernel
theorem dX4_order_69 : decode cX4_order 69 = .ok (.lload_n 2, 1) := by decide +kernel
theorem dX4_order_70 : decode cX4_order 70 = .ok (.invokevirtual 179, 3) := by decide +kernel
theorem dX4_order_73 : decode cX4_order 73 = .ok (.istore 9, 2) := by decide +kernel
theorem dX4_order_75 : decode cX4_order 75 = .ok (.iload 9, 2) := by decide +kernel
theorem dX4_order_77 : decode cX4_order 77 = .ok (.iload 6, 2) := by decide +kernel
theorem dX4_order_79 : decode cX4_order 79 = .ok (.if_icmp .le 11, 3) := by decide +kernel
theorem dX4_order_82 : decode cX4_order 82 = .ok (.iload 9, 2) := by decide +kernel
theorem dX4_order_84 : decode cX4_order 84 = .ok (.istore 6, 2) := by decide +kernel
theorem dX4_order_86 : decode cX4_order 86 = .ok (.iload 7, 2) := by decide +kernel
theorem dX4_order_88 : decode cX4_order 88 = .ok (.istore 5, 2) := by decide +kernel
theorem dX4_order_90 : decode cX4_order 90 = .ok (.iload 7, 2) := by decide +kernel
theorem dX4_order_92 : decode cX4_order 92 = .ok (.invokestatic 183, 3) := by decide +kernel
theorem dX4_order_95 : decode cX4_order 95 = .ok (.istore 7, 2) := by decide +kernel
theorem dX4_order_97 : decode cX4_order 97 = .ok (.iinc 8 1, 3) := by decide +kernel
theorem dX4_order_100 : decode cX4_order 100 = .ok (.goto (-47), 3) := by decide +kernel
theorem dX4_order_103 : decode cX4_order 103 = .ok (.iload 4, 2) := by decide +kernel
theorem dX4_order_105 : decode cX4_order 105 = .ok (.ifCond .ne 11, 3) := by decide +kernel
theorem dX4_order_108 : decode cX4_order 108 = .ok (.iload 5, 2) := by decide +kernel
theorem dX4_order_110 : decode cX4_order 110 = .ok (.invokestatic 110, 3) := by decide +kernel
theorem dX4_order_113 : decode cX4_order 113 = .ok (.goto 5, 3) := by decide +kernel
theorem dX4_order_116 : decode cX4_order 116 = .ok (.iload 6, 2) := by decide +kernel
theorem dX4_order_118 : decode cX4_order 118 = .ok (.ireturn, 1) := by decide +kernel
set_option maxRecDepth 20000 in
theorem ggX4_share_X1_has : GoodIn wsX4_share wsX1_has := goodIn_r _ [7, 8, 9, 10, 11, 160, 161, 162, 163, 164] (by decide +kernel) (by decide +kernel)
set_option maxRecDepth 20000 in
theorem gX4_share_X1_has : GoodIn wsX4_share (wsV RX4 120 RX1 yX1_has wsX1_has) := goodIn_app (goodIn_of _ (by decide +kernel)) ggX4_share_X1_has
set_option maxRecDepth 20000 in
theorem ggX4_share_X4_isSong : GoodIn wsX4_share wsX4_isSong := goodIn_r _ [14, 15, 16, 17, 9, 10, 11] (by decide +kernel) (by decide +kernel)
set_option maxRecDepth 20000 in
theorem gX4_share_X4_isSong : GoodIn wsX4_share (va_wsS RX4 168 yX4_isSong wsX4_isSong) := goodIn_app (goodIn_of _ (by decide +kernel)) ggX4_share_X4_isSong
set_option maxRecDepth 20000 in
theorem ggX4_share_X3_row : GoodIn wsX4_share wsX3_row := goodIn_r _ [22, 23, 165, 166, 167, 168, 169] (by decide +kernel) (by decide +kernel)
set_option maxRecDepth 20000 in
theorem gX4_share_X3_row : GoodIn wsX4_share (wsV RX4 107 RX3 yX3_row wsX3_row) := goodIn_app (goodIn_of _ (by decide +kernel)) ggX4_share_X3_row
set_option maxRecDepth 20000 in
theorem ggX4_share_X3_members : GoodIn wsX4_share wsX3_members := goodIn_r _ [27, 23, 28, 29, 30, 31, 32, 33, 34, 35, 36, 37, 165, 166, 167, 168, 169] (by decide +kernel) (by decide +kernel)
set_option maxRecDepth 20000 in
theorem gX4_share_X3_members : GoodIn wsX4_share (wsV RX4 101 RX3 yX3_members wsX3_members) := goodIn_app (goodIn_of _ (by decide +kernel)) ggX4_share_X3_members
set_option maxRecDepth 20000 in
theorem ggX4_share_X4_fraction : GoodIn wsX4_share wsX4_fraction := goodIn_r _ [40, 41, 42, 43, 44, 45, 46, 10, 47] (by decide +kernel) (by decide +kernel)
set_option maxRecDepth 20000 in
theorem gX4_share_X4_fraction : GoodIn wsX4_share (va_wsS RX4 186 yX4_fraction wsX4_fraction) := goodIn_app (goodIn_of _ (by decide +kernel)) ggX4_share_X4_fraction
set_option maxRecDepth 20000 in
theorem ggX4_share_X3_size : GoodIn wsX4_share wsX3_size := goodIn_r _ [51, 23, 52, 33, 30, 34, 35, 36, 37, 165, 166, 167, 168, 169] (by decide +kernel) (by decide +kernel)
set_option maxRecDepth 20000 in
theorem gX4_share_X3_size : GoodIn wsX4_share (wsV RX4 144 RX3 yX3_size wsX3_size) := goodIn_app (goodIn_of _ (by decide +kernel)) ggX4_share_X3_size
set_option maxRecDepth 20000 in
theorem ggX4_share_J6_bitCount_0f7a4 : GoodIn wsX4_share wsJ6_bitCount_0f7a4 := goodIn_r _ [56, 57, 58, 59] (by decide +kernel) (by decide +kernel)
set_option maxRecDepth 20000 in
theorem gX4_share_J6_bitCount_0f7a4 : GoodIn wsX4_share (va_wsS RX4 190 yJ6_bitCount_0f7a4 wsJ6_bitCount_0f7a4) := goodIn_app (goodIn_of _ (by decide +kernel)) ggX4_share_J6_bitCount_0f7a4
set_option maxRecDepth 20000 in
theorem ggX4_share_X0_only : GoodIn wsX4_share wsX0_only := goodIn_r _ [62, 32, 33, 30, 34, 35, 36, 37, 63, 64, 65] (by decide +kernel) (by decide +kernel)
set_option maxRecDepth 20000 in
theorem gX4_share_X0_only : GoodIn wsX4_share (va_wsS RX4 195 yX0_only wsX0_only) := goodIn_app (goodIn_of _ (by decide +kernel)) ggX4_share_X0_only
set_option maxRecDepth 20000 in
theorem ggX4_share_X4_leftOf : GoodIn wsX4_share wsX4_leftOf := goodIn_r _ [69, 70, 2, 71, 72, 73, 21, 74, 75, 76, 77, 78, 79, 23, 80, 81, 82, 83, 84, 85, 86, 87, 88, 89, 90, 91, 92, 93, 6, 94, 95, 96, 97, 98, 99, 100, 101, 102, 103, 104, 49, 50, 51, 52, 33, 30, 34, 35, 36, 37, 105, 106, 107, 108, 109, 110, 111, 112, 113, 114, 115, 116, 117, 118, 119, 120, 121, 122, 123, 124, 125, 126, 127, 128, 129, 130, 131, 132, 133, 134, 135, 136, 137, 138, 139, 140, 141, 142, 143, 144, 145, 64, 65, 48, 149, 150, 151, 152, 153, 154, 155, 156, 157, 158, 159, 165, 166, 167, 168, 169, 160, 161, 162, 163, 164] (by decide +kernel) (by decide +kernel)
set_option maxRecDepth 20000 in
theorem gX4_share_X4_leftOf : GoodIn wsX4_share (wsV RX4 179 RX4 yX4_leftOf wsX4_leftOf) := goodIn_app (goodIn_of _ (by decide +kernel)) ggX4_share_X4_leftOf
set_option maxRecDepth 20000 in
theorem ggX4_share_X4_factorial : GoodIn wsX4_share wsX4_factorial := goodIn_r _ [148] (by decide +kernel) (by decide +kernel)
set_option maxRecDepth 20000 in
theorem gX4_share_X4_factorial : GoodIn wsX4_share (va_wsS RX4 199 yX4_factorial wsX4_factorial) := goodIn_app (goodIn_of _ (by decide +kernel)) ggX4_share_X4_factorial
theorem dX4_share_0 : decode cX4_share 0 = .ok (.aload_n 0, 1) := by decide +kernel
theorem dX4_share_1 : decode cX4_share 1 = .ok (.getfield 19, 3) := by decide +kernel
theorem dX4_share_4 : decode cX4_share 4 = .ok (.iload_n 1, 1) := by decide +kernel
theorem dX4_share_5 : decode cX4_share 5 = .ok (.invokevirtual 120, 3) := by decide +kernel
theorem dX4_share_8 : decode cX4_share 8 = .ok (.ifCond .ne 5, 3) := by decide +kernel
theorem dX4_share_11 : decode cX4_share 11 = .ok (.iconst (-1), 1) := by decide +kernel
theorem dX4_share_12 : decode cX4_share 12 = .ok (.ireturn, 1) := by decide +kernel
theorem dX4_share_13 : decode cX4_share 13 = .ok (.iload_n 2, 1) := by decide +kernel
theorem dX4_share_14 : decode cX4_share 14 = .ok (.lload_n 3, 1) := by decide +kernel
theorem dX4_share_15 : decode cX4_share 15 = .ok (.invokestatic 168, 3) := by decide +kernel
theorem dX4_share_18 : decode cX4_share 18 = .ok (.ifCond .ne 6, 3) := by decide +kernel
theorem dX4_share_21 : decode cX4_share 21 = .ok (.bipush (-2), 2) := by decide +kernel
theorem dX4_share_23 : decode cX4_share 23 = .ok (.ireturn, 1) := by decide +kernel
theorem dX4_share_24 : decode cX4_share 24 = .ok (.aload_n 0, 1) := by decide +kernel
theorem dX4_share_25 : decode cX4_share 25 = .ok (.getfield 28, 3) := by decide +kernel
theorem dX4_share_28 : decode cX4_share 28 = .ok (.invokevirtual 107, 3) := by decide +kernel
theorem dX4_share_31 : decode cX4_share 31 = .ok (.istore 6, 2) := by decide +kernel
theorem dX4_share_33 : decode cX4_share 33 = .ok (.aload_n 0, 1) := by decide +kernel
theorem dX4_share_34 : decode cX4_share 34 = .ok (.getfield 28, 3) := by decide +kernel
theorem dX4_share_37 : decode cX4_share 37 = .ok (.invokevirtual 101, 3) := by decide +kernel
theorem dX4_share_40 : decode cX4_share 40 = .ok (.iconst 1, 1) := by decide +kernel
theorem dX4_share_41 : decode cX4_share 41 = .ok (.iload_n 1, 1) := by decide +kernel
theorem dX4_share_42 : decode cX4_share 42 = .ok (.ishl, 1) := by decide +kernel
theorem dX4_share_43 : decode cX4_share 43 = .ok (.iconst (-1), 1) := by decide +kernel
theorem dX4_share_44 : decode cX4_share 44 = .ok (.ixor, 1) := by decide +kernel
theorem dX4_share_45 : decode cX4_share 45 = .ok (.iand, 1) := by decide +kernel
theorem dX4_share_46 : decode cX4_share 46 = .ok (.istore 7, 2) := by decide +kernel
theorem dX4_share_48 : decode cX4_share 48 = .ok (.iload 7, 2) := by decide +kernel
theorem dX4_share_50 : decode cX4_share 50 = .ok (.aload_n 0, 1) := by decide +kernel
theorem dX4_share_51 : decode cX4_share 51 = .ok (.getfield 28, 3) := by decide +kernel
theorem dX4_share_54 : decode cX4_share 54 = .ok (.invokevirtual 101, 3) := by decide +kernel
theorem dX4_share_57 : decode cX4_share 57 = .ok (.if_icmp .ne 11, 3) := by decide +kernel
theorem dX4_share_60 : decode cX4_share 60 = .ok (.lconst 0, 1) := by decide +kernel
theorem dX4_share_61 : decode cX4_share 61 = .ok (.lconst 1, 1) := by decide +kernel
theorem dX4_share_62 : decode cX4_share 62 = .ok (.iload 5, 2) := by decide +kernel
theorem dX4_share_64 : decode cX4_share 64 = .ok (.invokestatic 186, 3) := by decide +kernel
theorem dX4_share_67 : decode cX4_share 67 = .ok (.ireturn, 1) := by decide +kernel
theorem dX4_share_68 : decode cX4_share 68 = .ok (.aload_n 0, 1) := by decide +kernel
theorem dX4_share_69 : decode cX4_share 69 = .ok (.getfield 28, 3) := by decide +kernel
theorem dX4_share_72 : decode cX4_share 72 = .ok (.invokevirtual 144, 3) := by decide +kernel
theorem dX4_share_75 : decode cX4_share 75 = .ok (.istore 8, 2) := by decide +kernel
theorem dX4_share_77 : decode cX4_share 77 = .ok (.lconst 0, 1) := by decide +kernel
theorem dX4_share_78 : decode cX4_share 78 = .ok (.lstore 9, 2) := by decide +kernel
theorem dX4_share_80 : decode cX4_share 80 = .ok (.iconst 0, 1) := by decide +kernel
theorem dX4_share_81 : decode cX4_share 81 = .ok (.istore 11, 2) := by decide +kernel
theorem dX4_share_83 : decode cX4_share 83 = .ok (.iload 11, 2) := by decide +kernel
theorem dX4_share_85 : decode cX4_share 85 = .ok (.iload 7, 2) := by decide +kernel
theorem dX4_share_87 : decode cX4_share 87 = .ok (.if_icmp .gt 84, 3) := by decide +kernel
theorem dX4_share_90 : decode cX4_share 90 = .ok (.iload 11, 2) := by decide +kernel
theorem dX4_share_92 : decode cX4_share 92 = .ok (.iload 7, 2) := by decide +kernel
theorem dX4_share_94 : decode cX4_share 94 = .ok (.iconst (-1), 1) := by decide +kernel
theorem dX4_share_95 : decode cX4_share 95 = .ok (.ixor, 1) := by decide +kernel
theorem dX4_share_96 : decode cX4_share 96 = .ok (.iand, 1) := by decide +kernel
theorem dX4_share_97 : decode cX4_share 97 = .ok (.ifCond .ne 68, 3) := by decide +kernel
theorem dX4_share_100 : decode cX4_share 100 = .ok (.iload 11, 2) := by decide +kernel
theorem dX4_share_102 : decode cX4_share 102 = .ok (.invokestatic 190, 3) := by decide +kernel
theorem dX4_share_105 : decode cX4_share 105 = .ok (.istore 12, 2) := by decide +kernel
theorem dX4_share_107 : decode cX4_share 107 = .ok (.aload_n 0, 1) := by decide +kernel
theorem dX4_share_108 : decode cX4_share 108 = .ok (.iload 6, 2) := by decide +kernel
theorem dX4_share_110 : decode cX4_share 110 = .ok (.iload 11, 2) := by decide +kernel
theorem dX4_share_112 : decode cX4_share 112 = .ok (.iconst 1, 1) := by decide +kernel
theorem dX4_share_113 : decode cX4_share 113 = .ok (.iload_n 1, 1) := by decide +kernel
theorem dX4_share_114 : decode cX4_share 114 = .ok (.ishl, 1) := by decide +kernel
theorem dX4_share_115 : decode cX4_share 115 = .ok (.ior, 1) := by decide +kernel
theorem dX4_share_116 : decode cX4_share 116 = .ok (.invokestatic 195, 3) := by decide +kernel
theorem dX4_share_119 : decode cX4_share 119 = .ok (.iload_n 2, 1) := by decide +kernel
theorem dX4_share_120 : decode cX4_share 120 = .ok (.lload_n 3, 1) := by decide +kernel
theorem dX4_share_121 : decode cX4_share 121 = .ok (.invokevirtual 179, 3) := by decide +kernel
theorem dX4_share_124 : decode cX4_share 124 = .ok (.aload_n 0, 1) := by decide +kernel
theorem dX4_share_125 : decode cX4_share 125 = .ok (.iload 6, 2) := by decide +kernel
theorem dX4_share_127 : decode cX4_share 127 = .ok (.iload 11, 2) := by decide +kernel
theorem dX4_share_129 : decode cX4_share 129 = .ok (.invokestatic 195, 3) := by decide +kernel
theorem dX4_share_132 : decode cX4_share 132 = .ok (.iload_n 2, 1) := by decide +kernel
theorem dX4_share_133 : decode cX4_share 133 = .ok (.lload_n 3, 1) := by decide +kernel
theorem dX4_share_134 : decode cX4_share 134 = .ok (.invokevirtual 179, 3) := by decide +kernel
theorem dX4_share_137 : decode cX4_share 137 = .ok (.isub, 1) := by decide +kernel
theorem dX4_share_138 : decode cX4_share 138 = .ok (.istore 13, 2) := by decide +kernel
theorem dX4_share_140 : decode cX4_share 140 = .ok (.lload 9, 2) := by decide +kernel
theorem dX4_share_142 : decode cX4_share 142 = .ok (.iload 13, 2) := by decide +kernel
theorem dX4_share_144 : decode cX4_share 144 = .ok (.iload 12, 2) := by decide +kernel
theorem dX4_share_146 : decode cX4_share 146 = .ok (.invokestatic 199, 3) := by decide +kernel
theorem dX4_share_149 : decode cX4_share 149 = .ok (.imul, 1) := by decide +kernel
theorem dX4_share_150 : decode cX4_share 150 = .ok (.iload 8, 2) := by decide +kernel
theorem dX4_share_152 : decode cX4_share 152 = .ok (.iconst 1, 1) := by decide +kernel
theorem dX4_share_153 : decode cX4_share 153 = .ok (.isub, 1) := by decide +kernel
theorem dX4_share_154 : decode cX4_share 154 = .ok (.iload 12, 2) := by decide +kernel
theorem dX4_share_156 : decode cX4_share 156 = .ok (.isub, 1) := by decide +kernel
theorem dX4_share_157 : decode cX4_share 157 = .ok (.invokestatic 199, 3) := by decide +kernel
theorem dX4_share_160 : decode cX4_share 160 = .ok (.imul, 1) := by decide +kernel
theorem dX4_share_161 : decode cX4_share 161 = .ok (.i2l, 1) := by decide +kernel
theorem dX4_share_162 : decode cX4_share 162 = .ok (.ladd, 1) := by decide +kernel
theorem dX4_share_163 : decode cX4_share 163 = .ok (.lstore 9, 2) := by decide +kernel
theorem dX4_share_165 : decode cX4_share 165 = .ok (.iinc 11 1, 3) := by decide +kernel
theorem dX4_share_168 : decode cX4_share 168 = .ok (.goto (-85), 3) := by decide +kernel
theorem dX4_share_171 : decode cX4_share 171 = .ok (.lload 9, 2) := by decide +kernel
theorem dX4_share_173 : decode cX4_share 173 = .ok (.iload 8, 2) := by decide +kernel
theorem dX4_share_175 : decode cX4_share 175 = .ok (.invokestatic 199, 3) := by decide +kernel
theorem dX4_share_178 : decode cX4_share 178 = .ok (.i2l, 1) := by decide +kernel
theorem dX4_share_179 : decode cX4_share 179 = .ok (.iload 5, 2) := by decide +kernel
theorem dX4_share_181 : decode cX4_share 181 = .ok (.invokestatic 186, 3) := by decide +kernel
theorem dX4_share_184 : decode cX4_share 184 = .ok (.ireturn, 1) := by decide +kernel
set_option maxRecDepth 20000 in
theorem ggX4_bears_X1_has : GoodIn wsX4_bears wsX1_has := goodIn_r _ [8, 9, 10, 11, 12, 114, 115, 116, 117, 118] (by decide +kernel) (by decide +kernel)
set_option maxRecDepth 20000 in
theorem gX4_bears_X1_has : GoodIn wsX4_bears (wsV RX4 120 RX1 yX1_has wsX1_has) := goodIn_app (goodIn_of _ (by decide +kernel)) ggX4_bears_X1_has
set_option maxRecDepth 20000 in
theorem ggX4_bears_X3_indexOf : GoodIn wsX4_bears wsX3_indexOf := goodIn_r _ [17, 18, 19, 20, 16, 21, 22, 23, 24, 25, 26, 27, 28, 29, 30, 31, 32, 33, 34, 119, 120, 121, 122, 123] (by decide +kernel) (by decide +kernel)
set_option maxRecDepth 20000 in
theorem gX4_bears_X3_indexOf : GoodIn wsX4_bears (wsV RX4 132 RX3 yX3_indexOf wsX3_indexOf) := goodIn_app (goodIn_of _ (by decide +kernel)) ggX4_bears_X3_indexOf
set_option maxRecDepth 20000 in
theorem ggX4_bears_X3_state : GoodIn wsX4_bears wsX3_state := goodIn_r _ [38, 39, 40, 22, 119, 120, 121, 122, 123] (by decide +kernel) (by decide +kernel)
set_option maxRecDepth 20000 in
theorem gX4_bears_X3_state : GoodIn wsX4_bears (wsV RX4 164 RX3 yX3_state wsX3_state) := goodIn_app (goodIn_of _ (by decide +kernel)) ggX4_bears_X3_state
set_option maxRecDepth 20000 in
theorem ggX4_bears_X3_become : GoodIn wsX4_bears wsX3_become := goodIn_r _ [44, 45, 22, 40, 39, 119, 120, 121, 122, 123] (by decide +kernel) (by decide +kernel)
set_option maxRecDepth 20000 in
theorem gX4_bears_X3_become : GoodIn wsX4_bears (wsV RX4 154 RX3 yX3_become wsX3_become) := goodIn_app (goodIn_of _ (by decide +kernel)) ggX4_bears_X3_become
set_option maxRecDepth 20000 in
theorem ggX4_bears_X1_light : GoodIn wsX4_bears wsX1_light := goodIn_r _ [49, 50, 114, 115, 116, 117, 118] (by decide +kernel) (by decide +kernel)
set_option maxRecDepth 20000 in
theorem gX4_bears_X1_light : GoodIn wsX4_bears (wsV RX4 92 RX1 yX1_light wsX1_light) := goodIn_app (goodIn_of _ (by decide +kernel)) ggX4_bears_X1_light
set_option maxRecDepth 20000 in
theorem ggX4_bears_X3_place : GoodIn wsX4_bears wsX3_place := goodIn_r _ [54, 39, 119, 120, 121, 122, 123] (by decide +kernel) (by decide +kernel)
set_option maxRecDepth 20000 in
theorem gX4_bears_X3_place : GoodIn wsX4_bears (wsV RX4 98 RX3 yX3_place wsX3_place) := goodIn_app (goodIn_of _ (by decide +kernel)) ggX4_bears_X3_place
set_option maxRecDepth 20000 in
theorem ggX4_bears_X3_step : GoodIn wsX4_bears wsX3_step := goodIn_r _ [58, 59, 39, 18, 19, 20, 16, 21, 22, 23, 24, 25, 26, 27, 28, 29, 30, 31, 32, 33, 34, 60, 61, 62, 7, 63, 64, 65, 66, 67, 68, 69, 70, 71, 72, 73, 74, 75, 76, 77, 78, 40, 79, 80, 81, 82, 83, 84, 85, 86, 87, 88, 89, 90, 91, 92, 93, 94, 95, 96, 97, 98, 119, 120, 121, 122, 123, 114, 115, 116, 117, 118] (by decide +kernel) (by decide +kernel)
set_option maxRecDepth 20000 in
theorem gX4_bears_X3_step : GoodIn wsX4_bears (wsV RX4 141 RX3 yX3_step wsX3_step) := goodIn_app (goodIn_of _ (by decide +kernel)) ggX4_bears_X3_step
set_option maxRecDepth 20000 in
theorem ggX4_bears_X3_turned : GoodIn wsX4_bears wsX3_turned := goodIn_r _ [102, 90, 119, 120, 121, 122, 123] (by decide +kernel) (by decide +kernel)
set_option maxRecDepth 20000 in
theorem gX4_bears_X3_turned : GoodIn wsX4_bears (wsV RX4 202 RX3 yX3_turned wsX3_turned) := goodIn_app (goodIn_of _ (by decide +kernel)) ggX4_bears_X3_turned
theorem dX4_bears_0 : decode cX4_bears 0 = .ok (.aload_n 0, 1) := by decide +kernel
theorem dX4_bears_1 : decode cX4_bears 1 = .ok (.getfield 19, 3) := by decide +kernel
theorem dX4_bears_4 : decode cX4_bears 4 = .ok (.iload_n 1, 1) := by decide +kernel
theorem dX4_bears_5 : decode cX4_bears 5 = .ok (.invokevirtual 120, 3) := by decide +kernel
theorem dX4_bears_8 : decode cX4_bears 8 = .ok (.ifCond .ne 5, 3) := by decide +kernel
theorem dX4_bears_11 : decode cX4_bears 11 = .ok (.iconst (-1), 1) := by decide +kernel
theorem dX4_bears_12 : decode cX4_bears 12 = .ok (.ireturn, 1) := by decide +kernel
theorem dX4_bears_13 : decode cX4_bears 13 = .ok (.aload_n 0, 1) := by decide +kernel
theorem dX4_bears_14 : decode cX4_bears 14 = .ok (.getfield 28, 3) := by decide +kernel
theorem dX4_bears_17 : decode cX4_bears 17 = .ok (.iload_n 1, 1) := by decide +kernel
theorem dX4_bears_18 : decode cX4_bears 18 = .ok (.invokevirtual 132, 3) := by decide +kernel
theorem dX4_bears_21 : decode cX4_bears 21 = .ok (.bipush (-9), 2) := by decide +kernel
theorem dX4_bears_23 : decode cX4_bears 23 = .ok (.if_icmp .ne 6, 3) := by decide +kernel
theorem dX4_bears_26 : decode cX4_bears 26 = .ok (.bipush (-3), 2) := by decide +kernel
theorem dX4_bears_28 : decode cX4_bears 28 = .ok (.ireturn, 1) := by decide +kernel
theorem dX4_bears_29 : decode cX4_bears 29 = .ok (.aload_n 0, 1) := by decide +kernel
theorem dX4_bears_30 : decode cX4_bears 30 = .ok (.getfield 32, 3) := by decide +kernel
theorem dX4_bears_33 : decode cX4_bears 33 = .ok (.aload_n 0, 1) := by decide +kernel
theorem dX4_bears_34 : decode cX4_bears 34 = .ok (.getfield 28, 3) := by decide +kernel
theorem dX4_bears_37 : decode cX4_bears 37 = .ok (.invokevirtual 164, 3) := by decide +kernel
theorem dX4_bears_40 : decode cX4_bears 40 = .ok (.invokevirtual 154, 3) := by decide +kernel
theorem dX4_bears_43 : decode cX4_bears 43 = .ok (.aload_n 0, 1) := by decide +kernel
theorem dX4_bears_44 : decode cX4_bears 44 = .ok (.getfield 19, 3) := by decide +kernel
theorem dX4_bears_47 : decode cX4_bears 47 = .ok (.invokevirtual 92, 3) := by decide +kernel
theorem dX4_bears_50 : decode cX4_bears 50 = .ok (.aload_n 0, 1) := by decide +kernel
theorem dX4_bears_51 : decode cX4_bears 51 = .ok (.getfield 28, 3) := by decide +kernel
theorem dX4_bears_54 : decode cX4_bears 54 = .ok (.invokevirtual 98, 3) := by decide +kernel
theorem dX4_bears_57 : decode cX4_bears 57 = .ok (.isub, 1) := by decide +kernel
theorem dX4_bears_58 : decode cX4_bears 58 = .ok (.istore_n 2, 1) := by decide +kernel
theorem dX4_bears_59 : decode cX4_bears 59 = .ok (.iconst 1, 1) := by decide +kernel
theorem dX4_bears_60 : decode cX4_bears 60 = .ok (.istore_n 3, 1) := by decide +kernel
theorem dX4_bears_61 : decode cX4_bears 61 = .ok (.iload_n 3, 1) := by decide +kernel
theorem dX4_bears_62 : decode cX4_bears 62 = .ok (.iload_n 2, 1) := by decide +kernel
theorem dX4_bears_63 : decode cX4_bears 63 = .ok (.if_icmp .gt 35, 3) := by decide +kernel
theorem dX4_bears_66 : decode cX4_bears 66 = .ok (.aload_n 0, 1) := by decide +kernel
theorem dX4_bears_67 : decode cX4_bears 67 = .ok (.getfield 32, 3) := by decide +kernel
theorem dX4_bears_70 : decode cX4_bears 70 = .ok (.iconst 0, 1) := by decide +kernel
theorem dX4_bears_71 : decode cX4_bears 71 = .ok (.invokevirtual 141, 3) := by decide +kernel
theorem dX4_bears_74 : decode cX4_bears 74 = .ok (.pop, 1) := by decide +kernel
theorem dX4_bears_75 : decode cX4_bears 75 = .ok (.aload_n 0, 1) := by decide +kernel
theorem dX4_bears_76 : decode cX4_bears 76 = .ok (.getfield 32, 3) := by decide +kernel
theorem dX4_bears_79 : decode cX4_bears 79 = .ok (.invokevirtual 202, 3) := by decide +kernel
theorem dX4_bears_82 : decode cX4_bears 82 = .ok (.iload_n 1, 1) := by decide +kernel
theorem dX4_bears_83 : decode cX4_bears 83 = .ok (.ishr, 1) := by decide +kernel
theorem dX4_bears_84 : decode cX4_bears 84 = .ok (.iconst 1, 1) := by decide +kernel
theorem dX4_bears_85 : decode cX4_bears 85 = .ok (.iand, 1) := by decide +kernel
theorem dX4_bears_86 : decode cX4_bears 86 = .ok (.iconst 1, 1) := by decide +kernel
theorem dX4_bears_87 : decode cX4_bears 87 = .ok (.if_icmp .ne 5, 3) := by decide +kernel
theorem dX4_bears_90 : decode cX4_bears 90 = .ok (.iload_n 3, 1) := by decide +kernel
theorem dX4_bears_91 : decode cX4_bears 91 = .ok (.ireturn, 1) := by decide +kernel
theorem dX4_bears_92 : decode cX4_bears 92 = .ok (.iinc 3 1, 3) := by decide +kernel
theorem dX4_bears_95 : decode cX4_bears 95 = .ok (.goto (-34), 3) := by decide +kernel
theorem dX4_bears_98 : decode cX4_bears 98 = .ok (.bipush (-9), 2) := by decide +kernel
theorem dX4_bears_100 : decode cX4_bears 100 = .ok (.ireturn, 1) := by decide +kernel
set_option maxRecDepth 20000 in
theorem ggX4_leftOf_X3_place : GoodIn wsX4_leftOf wsX3_place := goodIn_r _ [7, 8, 105, 106, 107, 108, 109] (by decide +kernel) (by decide +kernel)
set_option maxRecDepth 20000 in
theorem gX4_leftOf_X3_place : GoodIn wsX4_leftOf (wsV RX4 98 RX3 yX3_place wsX3_place) := goodIn_app (goodIn_of _ (by decide +kernel)) ggX4_leftOf_X3_place
set_option maxRecDepth 20000 in
theorem ggX4_leftOf_X3_lineUp : GoodIn wsX4_leftOf wsX3_lineUp := goodIn_r _ [12, 13, 14, 8, 105, 106, 107, 108, 109] (by decide +kernel) (by decide +kernel)
set_option maxRecDepth 20000 in
theorem gX4_leftOf_X3_lineUp : GoodIn wsX4_leftOf (wsV RX4 205 RX3 yX3_lineUp wsX3_lineUp) := goodIn_app (goodIn_of _ (by decide +kernel)) ggX4_leftOf_X3_lineUp
set_option maxRecDepth 20000 in
theorem ggX4_leftOf_X3_sing : GoodIn wsX4_leftOf wsX3_sing := goodIn_r _ [18, 19, 20, 21, 22, 6, 23, 8, 24, 25, 26, 27, 28, 29, 30, 31, 32, 33, 34, 35, 36, 37, 38, 39, 40, 41, 42, 13, 43, 44, 45, 46, 47, 48, 49, 50, 51, 52, 53, 54, 55, 56, 57, 58, 59, 60, 61, 62, 63, 64, 65, 66, 67, 68, 69, 70, 71, 72, 73, 14, 74, 75, 76, 77, 78, 79, 80, 81, 82, 83, 84, 85, 86, 87, 88, 89, 90, 91, 92, 105, 106, 107, 108, 109, 110, 111, 112, 113, 114] (by decide +kernel) (by decide +kernel)
set_option maxRecDepth 20000 in
theorem gX4_leftOf_X3_sing : GoodIn wsX4_leftOf (wsV RX4 172 RX3 yX3_sing wsX3_sing) := goodIn_app (goodIn_of _ (by decide +kernel)) ggX4_leftOf_X3_sing
set_option maxRecDepth 20000 in
theorem ggX4_leftOf_X3_size : GoodIn wsX4_leftOf wsX3_size := goodIn_r _ [42, 13, 43, 44, 45, 46, 47, 48, 49, 105, 106, 107, 108, 109] (by decide +kernel) (by decide +kernel)
set_option maxRecDepth 20000 in
theorem gX4_leftOf_X3_size : GoodIn wsX4_leftOf (wsV RX4 144 RX3 yX3_size wsX3_size) := goodIn_app (goodIn_of _ (by decide +kernel)) ggX4_leftOf_X3_size
theorem dX4_leftOf_0 : decode cX4_leftOf 0 = .ok (.aload_n 0, 1) := by decide +kernel
theorem dX4_leftOf_1 : decode cX4_leftOf 1 = .ok (.getfield 32, 3) := by decide +kernel
theorem dX4_leftOf_4 : decode cX4_leftOf 4 = .ok (.iload_n 1, 1) := by decide +kernel
theorem dX4_leftOf_5 : decode cX4_leftOf 5 = .ok (.aload_n 0, 1) := by decide +kernel
theorem dX4_leftOf_6 : decode cX4_leftOf 6 = .ok (.getfield 28, 3) := by decide +kernel
theorem dX4_leftOf_9 : decode cX4_leftOf 9 = .ok (.invokevirtual 98, 3) := by decide +kernel
theorem dX4_leftOf_12 : decode cX4_leftOf 12 = .ok (.invokevirtual 205, 3) := by decide +kernel
theorem dX4_leftOf_15 : decode cX4_leftOf 15 = .ok (.aload_n 0, 1) := by decide +kernel
theorem dX4_leftOf_16 : decode cX4_leftOf 16 = .ok (.getfield 32, 3) := by decide +kernel
theorem dX4_leftOf_19 : decode cX4_leftOf 19 = .ok (.iload_n 2, 1) := by decide +kernel
theorem dX4_leftOf_20 : decode cX4_leftOf 20 = .ok (.lload_n 3, 1) := by decide +kernel
theorem dX4_leftOf_21 : decode cX4_leftOf 21 = .ok (.invokevirtual 172, 3) := by decide +kernel
theorem dX4_leftOf_24 : decode cX4_leftOf 24 = .ok (.pop, 1) := by decide +kernel
theorem dX4_leftOf_25 : decode cX4_leftOf 25 = .ok (.aload_n 0, 1) := by decide +kernel
theorem dX4_leftOf_26 : decode cX4_leftOf 26 = .ok (.getfield 32, 3) := by decide +kernel
theorem dX4_leftOf_29 : decode cX4_leftOf 29 = .ok (.invokevirtual 144, 3) := by decide +kernel
theorem dX4_leftOf_32 : decode cX4_leftOf 32 = .ok (.ireturn, 1) := by decide +kernel
set_option maxRecDepth 20000 in
theorem ggX4_isSong_X4_within : GoodIn wsX4_isSong wsX4_within := goodIn_r _ [6] (by decide +kernel) (by decide +kernel)
set_option maxRecDepth 20000 in
theorem gX4_isSong_X4_within : GoodIn wsX4_isSong (va_wsS RX4 61 yX4_within wsX4_within) := goodIn_app (goodIn_of _ (by decide +kernel)) ggX4_isSong_X4_within
theorem dX4_isSong_0 : decode cX4_isSong 0 = .ok (.iload_n 0, 1) := by decide +kernel
theorem dX4_isSong_1 : decode cX4_isSong 1 = .ok (.iconst 1, 1) := by decide +kernel
theorem dX4_isSong_2 : decode cX4_isSong 2 = .ok (.iconst 5, 1) := by decide +kernel
theorem dX4_isSong_3 : decode cX4_isSong 3 = .ok (.invokestatic 61, 3) := by decide +kernel
theorem dX4_isSong_6 : decode cX4_isSong 6 = .ok (.ifCond .eq 9, 3) := by decide +kernel
theorem dX4_isSong_9 : decode cX4_isSong 9 = .ok (.lload_n 1, 1) := by decide +kernel
theorem dX4_isSong_10 : decode cX4_isSong 10 = .ok (.lconst 0, 1) := by decide +kernel
theorem dX4_isSong_11 : decode cX4_isSong 11 = .ok (.lcmp, 1) := by decide +kernel
theorem dX4_isSong_12 : decode cX4_isSong 12 = .ok (.ifCond .ge 5, 3) := by decide +kernel
theorem dX4_isSong_15 : decode cX4_isSong 15 = .ok (.iconst 0, 1) := by decide +kernel
theorem dX4_isSong_16 : decode cX4_isSong 16 = .ok (.ireturn, 1) := by decide +kernel
theorem dX4_isSong_17 : decode cX4_isSong 17 = .ok (.lload_n 1, 1) := by decide +kernel
theorem dX4_isSong_18 : decode cX4_isSong 18 = .ok (.lstore_n 3, 1) := by decide +kernel
theorem dX4_isSong_19 : decode cX4_isSong 19 = .ok (.iconst 0, 1) := by decide +kernel
theorem dX4_isSong_20 : decode cX4_isSong 20 = .ok (.istore 5, 2) := by decide +kernel
theorem dX4_isSong_22 : decode cX4_isSong 22 = .ok (.iload 5, 2) := by decide +kernel
theorem dX4_isSong_24 : decode cX4_isSong 24 = .ok (.iload_n 0, 1) := by decide +kernel
theorem dX4_isSong_25 : decode cX4_isSong 25 = .ok (.if_icmp .ge 29, 3) := by decide +kernel
theorem dX4_isSong_28 : decode cX4_isSong 28 = .ok (.lload_n 3, 1) := by decide +kernel
theorem dX4_isSong_29 : decode cX4_isSong 29 = .ok (.ldc2_w 209, 3) := by decide +kernel
theorem dX4_isSong_32 : decode cX4_isSong 32 = .ok (.lrem, 1) := by decide +kernel
theorem dX4_isSong_33 : decode cX4_isSong 33 = .ok (.ldc2_w 211, 3) := by decide +kernel
theorem dX4_isSong_36 : decode cX4_isSong 36 = .ok (.lcmp, 1) := by decide +kernel
theorem dX4_isSong_37 : decode cX4_isSong 37 = .ok (.ifCond .le 5, 3) := by decide +kernel
theorem dX4_isSong_40 : decode cX4_isSong 40 = .ok (.iconst 0, 1) := by decide +kernel
theorem dX4_isSong_41 : decode cX4_isSong 41 = .ok (.ireturn, 1) := by decide +kernel
theorem dX4_isSong_42 : decode cX4_isSong 42 = .ok (.lload_n 3, 1) := by decide +kernel
theorem dX4_isSong_43 : decode cX4_isSong 43 = .ok (.ldc2_w 209, 3) := by decide +kernel
theorem dX4_isSong_46 : decode cX4_isSong 46 = .ok (.ldiv, 1) := by decide +kernel
theorem dX4_isSong_47 : decode cX4_isSong 47 = .ok (.lstore_n 3, 1) := by decide +kernel
theorem dX4_isSong_48 : decode cX4_isSong 48 = .ok (.iinc 5 1, 3) := by decide +kernel
theorem dX4_isSong_51 : decode cX4_isSong 51 = .ok (.goto (-29), 3) := by decide +kernel
theorem dX4_isSong_54 : decode cX4_isSong 54 = .ok (.lload_n 3, 1) := by decide +kernel
theorem dX4_isSong_55 : decode cX4_isSong 55 = .ok (.lconst 0, 1) := by decide +kernel
theorem dX4_isSong_56 : decode cX4_isSong 56 = .ok (.lcmp, 1) := by decide +kernel
theorem dX4_isSong_57 : decode cX4_isSong 57 = .ok (.ifCond .ne 7, 3) := by decide +kernel
theorem dX4_isSong_60 : decode cX4_isSong 60 = .ok (.iconst 1, 1) := by decide +kernel
theorem dX4_isSong_61 : decode cX4_isSong 61 = .ok (.goto 4, 3) := by decide +kernel
theorem dX4_isSong_64 : decode cX4_isSong 64 = .ok (.iconst 0, 1) := by decide +kernel
theorem dX4_isSong_65 : decode cX4_isSong 65 = .ok (.ireturn, 1) := by decide +kernel
set_option maxRecDepth 20000 in
theorem ggX4_still_X4_within : GoodIn wsX4_still wsX4_within := goodIn_r _ [6] (by decide +kernel) (by decide +kernel)
set_option maxRecDepth 20000 in
theorem gX4_still_X4_within : GoodIn wsX4_still (va_wsS RX4 61 yX4_within wsX4_within) := goodIn_app (goodIn_of _ (by decide +kernel)) ggX4_still_X4_within
set_option maxRecDepth 20000 in
theorem ggX4_still_X4_isTenths : GoodIn wsX4_still wsX4_isTenths := goodIn_r _ [9, 3, 4, 5, 6] (by decide +kernel) (by decide +kernel)
set_option maxRecDepth 20000 in
theorem gX4_still_X4_isTenths : GoodIn wsX4_still (va_wsS RX4 213 yX4_isTenths wsX4_isTenths) := goodIn_app (goodIn_of _ (by decide +kernel)) ggX4_still_X4_isTenths
set_option maxRecDepth 20000 in
theorem ggX4_still_X4_fraction : GoodIn wsX4_still wsX4_fraction := goodIn_r _ [12, 13, 14, 15, 16, 17, 18, 5, 19] (by decide +kernel) (by decide +kernel)
set_option maxRecDepth 20000 in
theorem gX4_still_X4_fraction : GoodIn wsX4_still (va_wsS RX4 186 yX4_fraction wsX4_fraction) := goodIn_app (goodIn_of _ (by decide +kernel)) ggX4_still_X4_fraction
theorem dX4_still_0 : decode cX4_still 0 = .ok (.iload_n 1, 1) := by decide +kernel
theorem dX4_still_1 : decode cX4_still 1 = .ok (.iconst 1, 1) := by decide +kernel
theorem dX4_still_2 : decode cX4_still 2 = .ok (.iconst 4, 1) := by decide +kernel
theorem dX4_still_3 : decode cX4_still 3 = .ok (.invokestatic 61, 3) := by decide +kernel
theorem dX4_still_6 : decode cX4_still 6 = .ok (.ifCond .eq 31, 3) := by decide +kernel
theorem dX4_still_9 : decode cX4_still 9 = .ok (.iload_n 2, 1) := by decide +kernel
theorem dX4_still_10 : decode cX4_still 10 = .ok (.iconst 0, 1) := by decide +kernel
theorem dX4_still_11 : decode cX4_still 11 = .ok (.iconst 1, 1) := by decide +kernel
theorem dX4_still_12 : decode cX4_still 12 = .ok (.iload_n 1, 1) := by decide +kernel
theorem dX4_still_13 : decode cX4_still 13 = .ok (.ishl, 1) := by decide +kernel
theorem dX4_still_14 : decode cX4_still 14 = .ok (.iconst 1, 1) := by decide +kernel
theorem dX4_still_15 : decode cX4_still 15 = .ok (.isub, 1) := by decide +kernel
theorem dX4_still_16 : decode cX4_still 16 = .ok (.invokestatic 61, 3) := by decide +kernel
theorem dX4_still_19 : decode cX4_still 19 = .ok (.ifCond .eq 18, 3) := by decide +kernel
theorem dX4_still_22 : decode cX4_still 22 = .ok (.iload_n 3, 1) := by decide +kernel
theorem dX4_still_23 : decode cX4_still 23 = .ok (.invokestatic 213, 3) := by decide +kernel
theorem dX4_still_26 : decode cX4_still 26 = .ok (.ifCond .eq 11, 3) := by decide +kernel
theorem dX4_still_29 : decode cX4_still 29 = .ok (.iload 4, 2) := by decide +kernel
theorem dX4_still_31 : decode cX4_still 31 = .ok (.invokestatic 213, 3) := by decide +kernel
theorem dX4_still_34 : decode cX4_still 34 = .ok (.ifCond .ne 6, 3) := by decide +kernel
theorem dX4_still_37 : decode cX4_still 37 = .ok (.bipush (-2), 2) := by decide +kernel
theorem dX4_still_39 : decode cX4_still 39 = .ok (.ireturn, 1) := by decide +kernel
theorem dX4_still_40 : decode cX4_still 40 = .ok (.lconst 1, 1) := by decide +kernel
theorem dX4_still_41 : decode cX4_still 41 = .ok (.lstore 6, 2) := by decide +kernel
theorem dX4_still_43 : decode cX4_still 43 = .ok (.lconst 0, 1) := by decide +kernel
theorem dX4_still_44 : decode cX4_still 44 = .ok (.lstore 8, 2) := by decide +kernel
theorem dX4_still_46 : decode cX4_still 46 = .ok (.iconst 0, 1) := by decide +kernel
theorem dX4_still_47 : decode cX4_still 47 = .ok (.istore 10, 2) := by decide +kernel
theorem dX4_still_49 : decode cX4_still 49 = .ok (.iload 10, 2) := by decide +kernel
theorem dX4_still_51 : decode cX4_still 51 = .ok (.iload_n 1, 1) := by decide +kernel
theorem dX4_still_52 : decode cX4_still 52 = .ok (.if_icmp .ge 80, 3) := by decide +kernel
theorem dX4_still_55 : decode cX4_still 55 = .ok (.iload_n 2, 1) := by decide +kernel
theorem dX4_still_56 : decode cX4_still 56 = .ok (.iload 10, 2) := by decide +kernel
theorem dX4_still_58 : decode cX4_still 58 = .ok (.ishr, 1) := by decide +kernel
theorem dX4_still_59 : decode cX4_still 59 = .ok (.iconst 1, 1) := by decide +kernel
theorem dX4_still_60 : decode cX4_still 60 = .ok (.iand, 1) := by decide +kernel
theorem dX4_still_61 : decode cX4_still 61 = .ok (.iconst 1, 1) := by decide +kernel
theorem dX4_still_62 : decode cX4_still 62 = .ok (.if_icmp .ne 7, 3) := by decide +kernel
theorem dX4_still_65 : decode cX4_still 65 = .ok (.iconst 1, 1) := by decide +kernel
theorem dX4_still_66 : decode cX4_still 66 = .ok (.goto 4, 3) := by decide +kernel
theorem dX4_still_69 : decode cX4_still 69 = .ok (.iconst 0, 1) := by decide +kernel
theorem dX4_still_70 : decode cX4_still 70 = .ok (.istore 11, 2) := by decide +kernel
theorem dX4_still_72 : decode cX4_still 72 = .ok (.iload 11, 2) := by decide +kernel
theorem dX4_still_74 : decode cX4_still 74 = .ok (.ifCond .eq 7, 3) := by decide +kernel
theorem dX4_still_77 : decode cX4_still 77 = .ok (.lconst 0, 1) := by decide +kernel
theorem dX4_still_78 : decode cX4_still 78 = .ok (.goto 20, 3) := by decide +kernel
theorem dX4_still_81 : decode cX4_still 81 = .ok (.lload 8, 2) := by decide +kernel
theorem dX4_still_83 : decode cX4_still 83 = .ok (.ldc2_w 209, 3) := by decide +kernel
theorem dX4_still_86 : decode cX4_still 86 = .ok (.lmul, 1) := by decide +kernel
theorem dX4_still_87 : decode cX4_still 87 = .ok (.lload 6, 2) := by decide +kernel
theorem dX4_still_89 : decode cX4_still 89 = .ok (.iload 4, 2) := by decide +kernel
theorem dX4_still_91 : decode cX4_still 91 = .ok (.i2l, 1) := by decide +kernel
theorem dX4_still_92 : decode cX4_still 92 = .ok (.lmul, 1) := by decide +kernel
theorem dX4_still_93 : decode cX4_still 93 = .ok (.ldc2_w 216, 3) := by decide +kernel
theorem dX4_still_96 : decode cX4_still 96 = .ok (.lmul, 1) := by decide +kernel
theorem dX4_still_97 : decode cX4_still 97 = .ok (.ladd, 1) := by decide +kernel
theorem dX4_still_98 : decode cX4_still 98 = .ok (.lstore 8, 2) := by decide +kernel
theorem dX4_still_100 : decode cX4_still 100 = .ok (.lload 6, 2) := by decide +kernel
theorem dX4_still_102 : decode cX4_still 102 = .ok (.bipush 10, 2) := by decide +kernel
theorem dX4_still_104 : decode cX4_still 104 = .ok (.iload 4, 2) := by decide +kernel
theorem dX4_still_106 : decode cX4_still 106 = .ok (.isub, 1) := by decide +kernel
theorem dX4_still_107 : decode cX4_still 107 = .ok (.i2l, 1) := by decide +kernel
theorem dX4_still_108 : decode cX4_still 108 = .ok (.lmul, 1) := by decide +kernel
theorem dX4_still_109 : decode cX4_still 109 = .ok (.iload 11, 2) := by decide +kernel
theorem dX4_still_111 : decode cX4_still 111 = .ok (.ifCond .eq 7, 3) := by decide +kernel
theorem dX4_still_114 : decode cX4_still 114 = .ok (.iload_n 3, 1) := by decide +kernel
theorem dX4_still_115 : decode cX4_still 115 = .ok (.goto 7, 3) := by decide +kernel
theorem dX4_still_118 : decode cX4_still 118 = .ok (.bipush 10, 2) := by decide +kernel
theorem dX4_still_120 : decode cX4_still 120 = .ok (.iload_n 3, 1) := by decide +kernel
theorem dX4_still_121 : decode cX4_still 121 = .ok (.isub, 1) := by decide +kernel
theorem dX4_still_122 : decode cX4_still 122 = .ok (.i2l, 1) := by decide +kernel
theorem dX4_still_123 : decode cX4_still 123 = .ok (.lmul, 1) := by decide +kernel
theorem dX4_still_124 : decode cX4_still 124 = .ok (.lstore 6, 2) := by decide +kernel
theorem dX4_still_126 : decode cX4_still 126 = .ok (.iinc 10 1, 3) := by decide +kernel
theorem dX4_still_129 : decode cX4_still 129 = .ok (.goto (-80), 3) := by decide +kernel
theorem dX4_still_132 : decode cX4_still 132 = .ok (.lload 6, 2) := by decide +kernel
theorem dX4_still_134 : decode cX4_still 134 = .ok (.lload 8, 2) := by decide +kernel
theorem dX4_still_136 : decode cX4_still 136 = .ok (.ladd, 1) := by decide +kernel
theorem dX4_still_137 : decode cX4_still 137 = .ok (.lconst 0, 1) := by decide +kernel
theorem dX4_still_138 : decode cX4_still 138 = .ok (.lcmp, 1) := by decide +kernel
theorem dX4_still_139 : decode cX4_still 139 = .ok (.ifCond .ne 8, 3) := by decide +kernel
theorem dX4_still_142 : decode cX4_still 142 = .ok (.bipush (-3), 2) := by decide +kernel
theorem dX4_still_144 : decode cX4_still 144 = .ok (.goto 15, 3) := by decide +kernel
theorem dX4_still_147 : decode cX4_still 147 = .ok (.lload 6, 2) := by decide +kernel
theorem dX4_still_149 : decode cX4_still 149 = .ok (.lload 6, 2) := by decide +kernel
theorem dX4_still_151 : decode cX4_still 151 = .ok (.lload 8, 2) := by decide +kernel
theorem dX4_still_153 : decode cX4_still 153 = .ok (.ladd, 1) := by decide +kernel
theorem dX4_still_154 : decode cX4_still 154 = .ok (.iload 5, 2) := by decide +kernel
theorem dX4_still_156 : decode cX4_still 156 = .ok (.invokestatic 186, 3) := by decide +kernel
theorem dX4_still_159 : decode cX4_still 159 = .ok (.ireturn, 1) := by decide +kernel
set_option maxRecDepth 20000 in
theorem ggX4_pebbles_X4_within : GoodIn wsX4_pebbles wsX4_within := goodIn_r _ [4] (by decide +kernel) (by decide +kernel)
set_option maxRecDepth 20000 in
theorem gX4_pebbles_X4_within : GoodIn wsX4_pebbles (va_wsS RX4 61 yX4_within wsX4_within) := goodIn_app (goodIn_of _ (by decide +kernel)) ggX4_pebbles_X4_within
theorem dX4_pebbles_0 : decode cX4_pebbles 0 = .ok (.iload_n 1, 1) := by decide +kernel
theorem dX4_pebbles_1 : decode cX4_pebbles 1 = .ok (.iconst 1, 1) := by decide +kernel
theorem dX4_pebbles_2 : decode cX4_pebbles 2 = .ok (.iconst 5, 1) := by decide +kernel
theorem dX4_pebbles_3 : decode cX4_pebbles 3 = .ok (.invokestatic 61, 3) := by decide +kernel
theorem dX4_pebbles_6 : decode cX4_pebbles 6 = .ok (.ifCond .eq 13, 3) := by decide +kernel
theorem dX4_pebbles_9 : decode cX4_pebbles 9 = .ok (.iload_n 2, 1) := by decide +kernel
theorem dX4_pebbles_10 : decode cX4_pebbles 10 = .ok (.iconst 0, 1) := by decide +kernel
theorem dX4_pebbles_11 : decode cX4_pebbles 11 = .ok (.bipush 50, 2) := by decide +kernel
theorem dX4_pebbles_13 : decode cX4_pebbles 13 = .ok (.invokestatic 61, 3) := by decide +kernel
theorem dX4_pebbles_16 : decode cX4_pebbles 16 = .ok (.ifCond .ne 6, 3) := by decide +kernel
theorem dX4_pebbles_19 : decode cX4_pebbles 19 = .ok (.bipush (-2), 2) := by decide +kernel
theorem dX4_pebbles_21 : decode cX4_pebbles 21 = .ok (.ireturn, 1) := by decide +kernel
theorem dX4_pebbles_22 : decode cX4_pebbles 22 = .ok (.iconst 1, 1) := by decide +kernel
theorem dX4_pebbles_23 : decode cX4_pebbles 23 = .ok (.istore 4, 2) := by decide +kernel
theorem dX4_pebbles_25 : decode cX4_pebbles 25 = .ok (.iconst 0, 1) := by decide +kernel
theorem dX4_pebbles_26 : decode cX4_pebbles 26 = .ok (.istore 5, 2) := by decide +kernel
theorem dX4_pebbles_28 : decode cX4_pebbles 28 = .ok (.iload 5, 2) := by decide +kernel
theorem dX4_pebbles_30 : decode cX4_pebbles 30 = .ok (.bipush 6, 2) := by decide +kernel
theorem dX4_pebbles_32 : decode cX4_pebbles 32 = .ok (.if_icmp .ge 21, 3) := by decide +kernel
theorem dX4_pebbles_35 : decode cX4_pebbles 35 = .ok (.iload 4, 2) := by decide +kernel
theorem dX4_pebbles_37 : decode cX4_pebbles 37 = .ok (.iload_n 2, 1) := by decide +kernel
theorem dX4_pebbles_38 : decode cX4_pebbles 38 = .ok (.if_icmp .gt 15, 3) := by decide +kernel
theorem dX4_pebbles_41 : decode cX4_pebbles 41 = .ok (.iload 4, 2) := by decide +kernel
theorem dX4_pebbles_43 : decode cX4_pebbles 43 = .ok (.iload_n 1, 1) := by decide +kernel
theorem dX4_pebbles_44 : decode cX4_pebbles 44 = .ok (.imul, 1) := by decide +kernel
theorem dX4_pebbles_45 : decode cX4_pebbles 45 = .ok (.istore 4, 2) := by decide +kernel
theorem dX4_pebbles_47 : decode cX4_pebbles 47 = .ok (.iinc 5 1, 3) := by decide +kernel
theorem dX4_pebbles_50 : decode cX4_pebbles 50 = .ok (.goto (-22), 3) := by decide +kernel
theorem dX4_pebbles_53 : decode cX4_pebbles 53 = .ok (.iload 4, 2) := by decide +kernel
theorem dX4_pebbles_55 : decode cX4_pebbles 55 = .ok (.iload_n 2, 1) := by decide +kernel
theorem dX4_pebbles_56 : decode cX4_pebbles 56 = .ok (.if_icmp .gt 6, 3) := by decide +kernel
theorem dX4_pebbles_59 : decode cX4_pebbles 59 = .ok (.bipush (-9), 2) := by decide +kernel
theorem dX4_pebbles_61 : decode cX4_pebbles 61 = .ok (.ireturn, 1) := by decide +kernel
theorem dX4_pebbles_62 : decode cX4_pebbles 62 = .ok (.iload_n 3, 1) := by decide +kernel
theorem dX4_pebbles_63 : decode cX4_pebbles 63 = .ok (.ifCond .eq 14, 3) := by decide +kernel
theorem dX4_pebbles_66 : decode cX4_pebbles 66 = .ok (.iload_n 2, 1) := by decide +kernel
theorem dX4_pebbles_67 : decode cX4_pebbles 67 = .ok (.ifCond .le 10, 3) := by decide +kernel
theorem dX4_pebbles_70 : decode cX4_pebbles 70 = .ok (.iload 5, 2) := by decide +kernel
theorem dX4_pebbles_72 : decode cX4_pebbles 72 = .ok (.iconst 1, 1) := by decide +kernel
theorem dX4_pebbles_73 : decode cX4_pebbles 73 = .ok (.iadd, 1) := by decide +kernel
theorem dX4_pebbles_74 : decode cX4_pebbles 74 = .ok (.goto 5, 3) := by decide +kernel
theorem dX4_pebbles_77 : decode cX4_pebbles 77 = .ok (.iload 5, 2) := by decide +kernel
theorem dX4_pebbles_79 : decode cX4_pebbles 79 = .ok (.ireturn, 1) := by decide +kernel
set_option maxRecDepth 20000 in
theorem ggX4_tell_X4_within : GoodIn wsX4_tell wsX4_within := goodIn_r _ [7] (by decide +kernel) (by decide +kernel)
set_option maxRecDepth 20000 in
theorem gX4_tell_X4_within : GoodIn wsX4_tell (va_wsS RX4 61 yX4_within wsX4_within) := goodIn_app (goodIn_of _ (by decide +kernel)) ggX4_tell_X4_within
theorem dX4_tell_0 : decode cX4_tell 0 = .ok (.iload_n 1, 1) := by decide +kernel
theorem dX4_tell_1 : decode cX4_tell 1 = .ok (.iconst 0, 1) := by decide +kernel
theorem dX4_tell_2 : decode cX4_tell 2 = .ok (.bipush 8, 2) := by decide +kernel
theorem dX4_tell_4 : decode cX4_tell 4 = .ok (.invokestatic 61, 3) := by decide +kernel
theorem dX4_tell_7 : decode cX4_tell 7 = .ok (.ifCond .ne 6, 3) := by decide +kernel
theorem dX4_tell_10 : decode cX4_tell 10 = .ok (.bipush (-2), 2) := by decide +kernel
theorem dX4_tell_12 : decode cX4_tell 12 = .ok (.ireturn, 1) := by decide +kernel
theorem dX4_tell_13 : decode cX4_tell 13 = .ok (.aload_n 0, 1) := by decide +kernel
theorem dX4_tell_14 : decode cX4_tell 14 = .ok (.getfield 54, 3) := by decide +kernel
theorem dX4_tell_17 : decode cX4_tell 17 = .ok (.bipush 6, 2) := by decide +kernel
theorem dX4_tell_19 : decode cX4_tell 19 = .ok (.if_icmp .lt 6, 3) := by decide +kernel
theorem dX4_tell_22 : decode cX4_tell 22 = .ok (.bipush (-4), 2) := by decide +kernel
theorem dX4_tell_24 : decode cX4_tell 24 = .ok (.ireturn, 1) := by decide +kernel
theorem dX4_tell_25 : decode cX4_tell 25 = .ok (.iload_n 2, 1) := by decide +kernel
theorem dX4_tell_26 : decode cX4_tell 26 = .ok (.ifCond .eq 18, 3) := by decide +kernel
theorem dX4_tell_29 : decode cX4_tell 29 = .ok (.aload_n 0, 1) := by decide +kernel
theorem dX4_tell_30 : decode cX4_tell 30 = .ok (.dup, 1) := by decide +kernel
theorem dX4_tell_31 : decode cX4_tell 31 = .ok (.getfield 48, 3) := by decide +kernel
theorem dX4_tell_34 : decode cX4_tell 34 = .ok (.iconst 1, 1) := by decide +kernel
theorem dX4_tell_35 : decode cX4_tell 35 = .ok (.iload_n 1, 1) := by decide +kernel
theorem dX4_tell_36 : decode cX4_tell 36 = .ok (.ishl, 1) := by decide +kernel
theorem dX4_tell_37 : decode cX4_tell 37 = .ok (.ior, 1) := by decide +kernel
theorem dX4_tell_38 : decode cX4_tell 38 = .ok (.putfield 48, 3) := by decide +kernel
theorem dX4_tell_41 : decode cX4_tell 41 = .ok (.goto 15, 3) := by decide +kernel
theorem dX4_tell_44 : decode cX4_tell 44 = .ok (.aload_n 0, 1) := by decide +kernel
theorem dX4_tell_45 : decode cX4_tell 45 = .ok (.dup, 1) := by decide +kernel
theorem dX4_tell_46 : decode cX4_tell 46 = .ok (.getfield 51, 3) := by decide +kernel
theorem dX4_tell_49 : decode cX4_tell 49 = .ok (.iconst 1, 1) := by decide +kernel
theorem dX4_tell_50 : decode cX4_tell 50 = .ok (.iload_n 1, 1) := by decide +kernel
theorem dX4_tell_51 : decode cX4_tell 51 = .ok (.ishl, 1) := by decide +kernel
theorem dX4_tell_52 : decode cX4_tell 52 = .ok (.ior, 1) := by decide +kernel
theorem dX4_tell_53 : decode cX4_tell 53 = .ok (.putfield 51, 3) := by decide +kernel
theorem dX4_tell_56 : decode cX4_tell 56 = .ok (.aload_n 0, 1) := by decide +kernel
theorem dX4_tell_57 : decode cX4_tell 57 = .ok (.dup, 1) := by decide +kernel
theorem dX4_tell_58 : decode cX4_tell 58 = .ok (.getfield 54, 3) := by decide +kernel
theorem dX4_tell_61 : decode cX4_tell 61 = .ok (.iconst 1, 1) := by decide +kernel
theorem dX4_tell_62 : decode cX4_tell 62 = .ok (.iadd, 1) := by decide +kernel
theorem dX4_tell_63 : decode cX4_tell 63 = .ok (.putfield 54, 3) := by decide +kernel
theorem dX4_tell_66 : decode cX4_tell 66 = .ok (.aload_n 0, 1) := by decide +kernel
theorem dX4_tell_67 : decode cX4_tell 67 = .ok (.getfield 54, 3) := by decide +kernel
theorem dX4_tell_70 : decode cX4_tell 70 = .ok (.ireturn, 1) := by decide +kernel
theorem dX4_untell_0 : decode cX4_untell 0 = .ok (.aload_n 0, 1) := by decide +kernel
theorem dX4_untell_1 : decode cX4_untell 1 = .ok (.getfield 54, 3) := by decide +kernel
theorem dX4_untell_4 : decode cX4_untell 4 = .ok (.istore_n 1, 1) := by decide +kernel
theorem dX4_untell_5 : decode cX4_untell 5 = .ok (.aload_n 0, 1) := by decide +kernel
theorem dX4_untell_6 : decode cX4_untell 6 = .ok (.iconst 0, 1) := by decide +kernel
theorem dX4_untell_7 : decode cX4_untell 7 = .ok (.putfield 48, 3) := by decide +kernel
theorem dX4_untell_10 : decode cX4_untell 10 = .ok (.aload_n 0, 1) := by decide +kernel
theorem dX4_untell_11 : decode cX4_untell 11 = .ok (.iconst 0, 1) := by decide +kernel
theorem dX4_untell_12 : decode cX4_untell 12 = .ok (.putfield 51, 3) := by decide +kernel
theorem dX4_untell_15 : decode cX4_untell 15 = .ok (.aload_n 0, 1) := by decide +kernel
theorem dX4_untell_16 : decode cX4_untell 16 = .ok (.iconst 0, 1) := by decide +kernel
theorem dX4_untell_17 : decode cX4_untell 17 = .ok (.putfield 54, 3) := by decide +kernel
theorem dX4_untell_20 : decode cX4_untell 20 = .ok (.iload_n 1, 1) := by decide +kernel
theorem dX4_untell_21 : decode cX4_untell 21 = .ok (.ireturn, 1) := by decide +kernel
theorem dX4_letGo_0 : decode cX4_letGo 0 = .ok (.iconst 0, 1) := by decide +kernel
theorem dX4_letGo_1 : decode cX4_letGo 1 = .ok (.istore_n 2, 1) := by decide +kernel
theorem dX4_letGo_2 : decode cX4_letGo 2 = .ok (.iconst 0, 1) := by decide +kernel
theorem dX4_letGo_3 : decode cX4_letGo 3 = .ok (.istore_n 3, 1) := by decide +kernel
theorem dX4_letGo_4 : decode cX4_letGo 4 = .ok (.iload_n 3, 1) := by decide +kernel
theorem dX4_letGo_5 : decode cX4_letGo 5 = .ok (.bipush 9, 2) := by decide +kernel
theorem dX4_letGo_7 : decode cX4_letGo 7 = .ok (.if_icmp .gt 72, 3) := by decide +kernel
theorem dX4_letGo_10 : decode cX4_letGo 10 = .ok (.iconst 1, 1) := by decide +kernel
theorem dX4_letGo_11 : decode cX4_letGo 11 = .ok (.iload_n 3, 1) := by decide +kernel
theorem dX4_letGo_12 : decode cX4_letGo 12 = .ok (.ishl, 1) := by decide +kernel
theorem dX4_letGo_13 : decode cX4_letGo 13 = .ok (.iconst 1, 1) := by decide +kernel
theorem dX4_letGo_14 : decode cX4_letGo 14 = .ok (.isub, 1) := by decide +kernel
theorem dX4_letGo_15 : decode cX4_letGo 15 = .ok (.istore 4, 2) := by decide +kernel
theorem dX4_letGo_17 : decode cX4_letGo 17 = .ok (.aload_n 0, 1) := by decide +kernel
theorem dX4_letGo_18 : decode cX4_letGo 18 = .ok (.getfield 48, 3) := by decide +kernel
theorem dX4_letGo_21 : decode cX4_letGo 21 = .ok (.iload 4, 2) := by decide +kernel
theorem dX4_letGo_23 : decode cX4_letGo 23 = .ok (.iconst (-1), 1) := by decide +kernel
theorem dX4_letGo_24 : decode cX4_letGo 24 = .ok (.ixor, 1) := by decide +kernel
theorem dX4_letGo_25 : decode cX4_letGo 25 = .ok (.iand, 1) := by decide +kernel
theorem dX4_letGo_26 : decode cX4_letGo 26 = .ok (.ifCond .ne 7, 3) := by decide +kernel
theorem dX4_letGo_29 : decode cX4_letGo 29 = .ok (.iconst 1, 1) := by decide +kernel
theorem dX4_letGo_30 : decode cX4_letGo 30 = .ok (.goto 4, 3) := by decide +kernel
theorem dX4_letGo_33 : decode cX4_letGo 33 = .ok (.iconst 0, 1) := by decide +kernel
theorem dX4_letGo_34 : decode cX4_letGo 34 = .ok (.istore 5, 2) := by decide +kernel
theorem dX4_letGo_36 : decode cX4_letGo 36 = .ok (.iload_n 1, 1) := by decide +kernel
theorem dX4_letGo_37 : decode cX4_letGo 37 = .ok (.ifCond .eq 13, 3) := by decide +kernel
theorem dX4_letGo_40 : decode cX4_letGo 40 = .ok (.aload_n 0, 1) := by decide +kernel
theorem dX4_letGo_41 : decode cX4_letGo 41 = .ok (.getfield 51, 3) := by decide +kernel
theorem dX4_letGo_44 : decode cX4_letGo 44 = .ok (.iload 4, 2) := by decide +kernel
theorem dX4_letGo_46 : decode cX4_letGo 46 = .ok (.iand, 1) := by decide +kernel
theorem dX4_letGo_47 : decode cX4_letGo 47 = .ok (.ifCond .ne 7, 3) := by decide +kernel
theorem dX4_letGo_50 : decode cX4_letGo 50 = .ok (.iconst 1, 1) := by decide +kernel
theorem dX4_letGo_51 : decode cX4_letGo 51 = .ok (.goto 4, 3) := by decide +kernel
theorem dX4_letGo_54 : decode cX4_letGo 54 = .ok (.iconst 0, 1) := by decide +kernel
theorem dX4_letGo_55 : decode cX4_letGo 55 = .ok (.istore 6, 2) := by decide +kernel
theorem dX4_letGo_57 : decode cX4_letGo 57 = .ok (.iload 5, 2) := by decide +kernel
theorem dX4_letGo_59 : decode cX4_letGo 59 = .ok (.ifCond .eq 14, 3) := by decide +kernel
theorem dX4_letGo_62 : decode cX4_letGo 62 = .ok (.iload 6, 2) := by decide +kernel
theorem dX4_letGo_64 : decode cX4_letGo 64 = .ok (.ifCond .eq 9, 3) := by decide +kernel
theorem dX4_letGo_67 : decode cX4_letGo 67 = .ok (.iload_n 2, 1) := by decide +kernel
theorem dX4_letGo_68 : decode cX4_letGo 68 = .ok (.iconst 1, 1) := by decide +kernel
theorem dX4_letGo_69 : decode cX4_letGo 69 = .ok (.iload_n 3, 1) := by decide +kernel
theorem dX4_letGo_70 : decode cX4_letGo 70 = .ok (.ishl, 1) := by decide +kernel
theorem dX4_letGo_71 : decode cX4_letGo 71 = .ok (.ior, 1) := by decide +kernel
theorem dX4_letGo_72 : decode cX4_letGo 72 = .ok (.istore_n 2, 1) := by decide +kernel
theorem dX4_letGo_73 : decode cX4_letGo 73 = .ok (.iinc 3 1, 3) := by decide +kernel
theorem dX4_letGo_76 : decode cX4_letGo 76 = .ok (.goto (-72), 3) := by decide +kernel
theorem dX4_letGo_79 : decode cX4_letGo 79 = .ok (.iload_n 2, 1) := by decide +kernel
theorem dX4_letGo_80 : decode cX4_letGo 80 = .ok (.ireturn, 1) := by decide +kernel
set_option maxRecDepth 20000 in
theorem ggX4_link_X4_within : GoodIn wsX4_link wsX4_within := goodIn_r _ [4] (by decide +kernel) (by decide +kernel)
set_option maxRecDepth 20000 in
theorem gX4_link_X4_within : GoodIn wsX4_link (va_wsS RX4 61 yX4_within wsX4_within) := goodIn_app (goodIn_of _ (by decide +kernel)) ggX4_link_X4_within
set_option maxRecDepth 20000 in
theorem ggX4_link_X4_isTenths : GoodIn wsX4_link wsX4_isTenths := goodIn_r _ [7, 1, 2, 3, 4] (by decide +kernel) (by decide +kernel)
set_option maxRecDepth 20000 in
theorem gX4_link_X4_isTenths : GoodIn wsX4_link (va_wsS RX4 213 yX4_isTenths wsX4_isTenths) := goodIn_app (goodIn_of _ (by decide +kernel)) ggX4_link_X4_isTenths
set_option maxRecDepth 20000 in
theorem ggX4_link_X4_longestSilence : GoodIn wsX4_link wsX4_longestSilence := goodIn_r _ [10, 11, 12, 13, 14] (by decide +kernel) (by decide +kernel)
set_option maxRecDepth 20000 in
theorem gX4_link_X4_longestSilence : GoodIn wsX4_link (va_wsS RX4 218 yX4_longestSilence wsX4_longestSilence) := goodIn_app (goodIn_of _ (by decide +kernel)) ggX4_link_X4_longestSilence
set_option maxRecDepth 20000 in
theorem ggX4_link_J6_bitCount_0f7a4 : GoodIn wsX4_link wsJ6_bitCount_0f7a4 := goodIn_r _ [18, 19, 20, 21] (by decide +kernel) (by decide +kernel)
set_option maxRecDepth 20000 in
theorem gX4_link_J6_bitCount_0f7a4 : GoodIn wsX4_link (va_wsS RX4 190 yJ6_bitCount_0f7a4 wsJ6_bitCount_0f7a4) := goodIn_app (goodIn_of _ (by decide +kernel)) ggX4_link_J6_bitCount_0f7a4
set_option maxRecDepth 20000 in
theorem ggX4_link_X4_power : GoodIn wsX4_link wsX4_power := goodIn_r _ [24] (by decide +kernel) (by decide +kernel)
set_option maxRecDepth 20000 in
theorem gX4_link_X4_power : GoodIn wsX4_link (va_wsS RX4 221 yX4_power wsX4_power) := goodIn_app (goodIn_of _ (by decide +kernel)) ggX4_link_X4_power
set_option maxRecDepth 20000 in
theorem ggX4_link_X4_fraction : GoodIn wsX4_link wsX4_fraction := goodIn_r _ [27, 28, 29, 13, 30, 31, 32, 3, 33] (by decide +kernel) (by decide +kernel)
set_option maxRecDepth 20000 in
theorem gX4_link_X4_fraction : GoodIn wsX4_link (va_wsS RX4 186 yX4_fraction wsX4_fraction) := goodIn_app (goodIn_of _ (by decide +kernel)) ggX4_link_X4_fraction
theorem dX4_link_0 : decode cX4_link 0 = .ok (.iload_n 1, 1) := by decide +kernel
theorem dX4_link_1 : decode cX4_link 1 = .ok (.iconst 0, 1) := by decide +kernel
theorem dX4_link_2 : decode cX4_link 2 = .ok (.iconst 5, 1) := by decide +kernel
theorem dX4_link_3 : decode cX4_link 3 = .ok (.invokestatic 61, 3) := by decide +kernel
theorem dX4_link_6 : decode cX4_link 6 = .ok (.ifCond .eq 20, 3) := by decide +kernel
theorem dX4_link_9 : decode cX4_link 9 = .ok (.iload_n 2, 1) := by decide +kernel
theorem dX4_link_10 : decode cX4_link 10 = .ok (.invokestatic 213, 3) := by decide +kernel
theorem dX4_link_13 : decode cX4_link 13 = .ok (.ifCond .eq 13, 3) := by decide +kernel
theorem dX4_link_16 : decode cX4_link 16 = .ok (.iload_n 3, 1) := by decide +kernel
theorem dX4_link_17 : decode cX4_link 17 = .ok (.iconst 0, 1) := by decide +kernel
theorem dX4_link_18 : decode cX4_link 18 = .ok (.bipush 6, 2) := by decide +kernel
theorem dX4_link_20 : decode cX4_link 20 = .ok (.invokestatic 61, 3) := by decide +kernel
theorem dX4_link_23 : decode cX4_link 23 = .ok (.ifCond .ne 6, 3) := by decide +kernel
theorem dX4_link_26 : decode cX4_link 26 = .ok (.bipush (-2), 2) := by decide +kernel
theorem dX4_link_28 : decode cX4_link 28 = .ok (.ireturn, 1) := by decide +kernel
theorem dX4_link_29 : decode cX4_link 29 = .ok (.lconst 0, 1) := by decide +kernel
theorem dX4_link_30 : decode cX4_link 30 = .ok (.lstore 5, 2) := by decide +kernel
theorem dX4_link_32 : decode cX4_link 32 = .ok (.iconst 0, 1) := by decide +kernel
theorem dX4_link_33 : decode cX4_link 33 = .ok (.istore 7, 2) := by decide +kernel
theorem dX4_link_35 : decode cX4_link 35 = .ok (.iload 7, 2) := by decide +kernel
theorem dX4_link_37 : decode cX4_link 37 = .ok (.iconst 1, 1) := by decide +kernel
theorem dX4_link_38 : decode cX4_link 38 = .ok (.iload_n 3, 1) := by decide +kernel
theorem dX4_link_39 : decode cX4_link 39 = .ok (.ishl, 1) := by decide +kernel
theorem dX4_link_40 : decode cX4_link 40 = .ok (.if_icmp .ge 49, 3) := by decide +kernel
theorem dX4_link_43 : decode cX4_link 43 = .ok (.iload 7, 2) := by decide +kernel
theorem dX4_link_45 : decode cX4_link 45 = .ok (.iload_n 3, 1) := by decide +kernel
theorem dX4_link_46 : decode cX4_link 46 = .ok (.invokestatic 218, 3) := by decide +kernel
theorem dX4_link_49 : decode cX4_link 49 = .ok (.iload_n 1, 1) := by decide +kernel
theorem dX4_link_50 : decode cX4_link 50 = .ok (.if_icmp .gt 33, 3) := by decide +kernel
theorem dX4_link_53 : decode cX4_link 53 = .ok (.iload 7, 2) := by decide +kernel
theorem dX4_link_55 : decode cX4_link 55 = .ok (.invokestatic 190, 3) := by decide +kernel
theorem dX4_link_58 : decode cX4_link 58 = .ok (.istore 8, 2) := by decide +kernel
theorem dX4_link_60 : decode cX4_link 60 = .ok (.lload 5, 2) := by decide +kernel
theorem dX4_link_62 : decode cX4_link 62 = .ok (.iload_n 2, 1) := by decide +kernel
theorem dX4_link_63 : decode cX4_link 63 = .ok (.iload 8, 2) := by decide +kernel
theorem dX4_link_65 : decode cX4_link 65 = .ok (.invokestatic 221, 3) := by decide +kernel
theorem dX4_link_68 : decode cX4_link 68 = .ok (.bipush 10, 2) := by decide +kernel
theorem dX4_link_70 : decode cX4_link 70 = .ok (.iload_n 2, 1) := by decide +kernel
theorem dX4_link_71 : decode cX4_link 71 = .ok (.isub, 1) := by decide +kernel
theorem dX4_link_72 : decode cX4_link 72 = .ok (.iload_n 3, 1) := by decide +kernel
theorem dX4_link_73 : decode cX4_link 73 = .ok (.iload 8, 2) := by decide +kernel
theorem dX4_link_75 : decode cX4_link 75 = .ok (.isub, 1) := by decide +kernel
theorem dX4_link_76 : decode cX4_link 76 = .ok (.invokestatic 221, 3) := by decide +kernel
theorem dX4_link_79 : decode cX4_link 79 = .ok (.lmul, 1) := by decide +kernel
theorem dX4_link_80 : decode cX4_link 80 = .ok (.ladd, 1) := by decide +kernel
theorem dX4_link_81 : decode cX4_link 81 = .ok (.lstore 5, 2) := by decide +kernel
theorem dX4_link_83 : decode cX4_link 83 = .ok (.iinc 7 1, 3) := by decide +kernel
theorem dX4_link_86 : decode cX4_link 86 = .ok (.goto (-51), 3) := by decide +kernel
theorem dX4_link_89 : decode cX4_link 89 = .ok (.lload 5, 2) := by decide +kernel
theorem dX4_link_91 : decode cX4_link 91 = .ok (.bipush 10, 2) := by decide +kernel
theorem dX4_link_93 : decode cX4_link 93 = .ok (.iload_n 3, 1) := by decide +kernel
theorem dX4_link_94 : decode cX4_link 94 = .ok (.invokestatic 221, 3) := by decide +kernel
theorem dX4_link_97 : decode cX4_link 97 = .ok (.iload 4, 2) := by decide +kernel
theorem dX4_link_99 : decode cX4_link 99 = .ok (.invokestatic 186, 3) := by decide +kernel
theorem dX4_link_102 : decode cX4_link 102 = .ok (.ireturn, 1) := by decide +kernel
theorem dX4_seed_0 : decode cX4_seed 0 = .ok (.aload_n 0, 1) := by decide +kernel
theorem dX4_seed_1 : decode cX4_seed 1 = .ok (.getfield 57, 3) := by decide +kernel
theorem dX4_seed_4 : decode cX4_seed 4 = .ok (.lstore_n 3, 1) := by decide +kernel
theorem dX4_seed_5 : decode cX4_seed 5 = .ok (.aload_n 0, 1) := by decide +kernel
theorem dX4_seed_6 : decode cX4_seed 6 = .ok (.lload_n 1, 1) := by decide +kernel
theorem dX4_seed_7 : decode cX4_seed 7 = .ok (.putfield 57, 3) := by decide +kernel
theorem dX4_seed_10 : decode cX4_seed 10 = .ok (.lload_n 3, 1) := by decide +kernel
theorem dX4_seed_11 : decode cX4_seed 11 = .ok (.lreturn, 1) := by decide +kernel
set_option maxRecDepth 20000 in
theorem ggX4_gorges_X4_within : GoodIn wsX4_gorges wsX4_within := goodIn_r _ [10] (by decide +kernel) (by decide +kernel)
set_option maxRecDepth 20000 in
theorem gX4_gorges_X4_within : GoodIn wsX4_gorges (va_wsS RX4 61 yX4_within wsX4_within) := goodIn_app (goodIn_of _ (by decide +kernel)) ggX4_gorges_X4_within
set_option maxRecDepth 20000 in
theorem ggX4_gorges_X1_light : GoodIn wsX4_gorges wsX1_light := goodIn_r _ [15, 16, 106, 107, 108, 109, 110] (by decide +kernel) (by decide +kernel)
set_option maxRecDepth 20000 in
theorem gX4_gorges_X1_light : GoodIn wsX4_gorges (wsV RX4 92 RX1 yX1_light wsX1_light) := goodIn_app (goodIn_of _ (by decide +kernel)) ggX4_gorges_X1_light
set_option maxRecDepth 20000 in
theorem ggX4_gorges_X3_place : GoodIn wsX4_gorges wsX3_place := goodIn_r _ [21, 22, 111, 112, 113, 114, 115] (by decide +kernel) (by decide +kernel)
set_option maxRecDepth 20000 in
theorem gX4_gorges_X3_place : GoodIn wsX4_gorges (wsV RX4 98 RX3 yX3_place wsX3_place) := goodIn_app (goodIn_of _ (by decide +kernel)) ggX4_gorges_X3_place
set_option maxRecDepth 20000 in
theorem ggX4_gorges_X3_state : GoodIn wsX4_gorges wsX3_state := goodIn_r _ [26, 22, 27, 28, 111, 112, 113, 114, 115] (by decide +kernel) (by decide +kernel)
set_option maxRecDepth 20000 in
theorem gX4_gorges_X3_state : GoodIn wsX4_gorges (wsV RX4 164 RX3 yX3_state wsX3_state) := goodIn_app (goodIn_of _ (by decide +kernel)) ggX4_gorges_X3_state
set_option maxRecDepth 20000 in
theorem ggX4_gorges_X3_become : GoodIn wsX4_gorges wsX3_become := goodIn_r _ [32, 33, 28, 27, 22, 111, 112, 113, 114, 115] (by decide +kernel) (by decide +kernel)
set_option maxRecDepth 20000 in
theorem gX4_gorges_X3_become : GoodIn wsX4_gorges (wsV RX4 154 RX3 yX3_become wsX3_become) := goodIn_app (goodIn_of _ (by decide +kernel)) ggX4_gorges_X3_become
set_option maxRecDepth 20000 in
theorem ggX4_gorges_X3_step : GoodIn wsX4_gorges wsX3_step := goodIn_r _ [37, 38, 22, 39, 40, 41, 20, 42, 28, 43, 44, 45, 46, 47, 48, 49, 50, 51, 52, 53, 54, 55, 56, 57, 14, 58, 59, 60, 61, 62, 63, 64, 65, 66, 67, 68, 69, 70, 71, 72, 73, 27, 74, 75, 76, 77, 78, 79, 80, 81, 82, 83, 84, 85, 86, 87, 88, 89, 90, 91, 92, 93, 111, 112, 113, 114, 115, 106, 107, 108, 109, 110] (by decide +kernel) (by decide +kernel)
set_option maxRecDepth 20000 in
theorem gX4_gorges_X3_step : GoodIn wsX4_gorges (wsV RX4 141 RX3 yX3_step wsX3_step) := goodIn_app (goodIn_of _ (by decide +kernel)) ggX4_gorges_X3_step
set_option maxRecDepth 20000 in
theorem ggX4_gorges_X3_size : GoodIn wsX4_gorges wsX3_size := goodIn_r _ [42, 28, 43, 44, 45, 46, 47, 48, 49, 111, 112, 113, 114, 115] (by decide +kernel) (by decide +kernel)
set_option maxRecDepth 20000 in
theorem gX4_gorges_X3_size : GoodIn wsX4_gorges (wsV RX4 144 RX3 yX3_size wsX3_size) := goodIn_app (goodIn_of _ (by decide +kernel)) ggX4_gorges_X3_size
theorem dX4_gorges_0 : decode cX4_gorges 0 = .ok (.iload_n 1, 1) := by decide +kernel
theorem dX4_gorges_1 : decode cX4_gorges 1 = .ok (.iconst 1, 1) := by decide +kernel
theorem dX4_gorges_2 : decode cX4_gorges 2 = .ok (.bipush 20, 2) := by decide +kernel
theorem dX4_gorges_4 : decode cX4_gorges 4 = .ok (.invokestatic 61, 3) := by decide +kernel
theorem dX4_gorges_7 : decode cX4_gorges 7 = .ok (.ifCond .ne 6, 3) := by decide +kernel
theorem dX4_gorges_10 : decode cX4_gorges 10 = .ok (.bipush (-2), 2) := by decide +kernel
theorem dX4_gorges_12 : decode cX4_gorges 12 = .ok (.ireturn, 1) := by decide +kernel
theorem dX4_gorges_13 : decode cX4_gorges 13 = .ok (.aload_n 0, 1) := by decide +kernel
theorem dX4_gorges_14 : decode cX4_gorges 14 = .ok (.getfield 19, 3) := by decide +kernel
theorem dX4_gorges_17 : decode cX4_gorges 17 = .ok (.invokevirtual 92, 3) := by decide +kernel
theorem dX4_gorges_20 : decode cX4_gorges 20 = .ok (.aload_n 0, 1) := by decide +kernel
theorem dX4_gorges_21 : decode cX4_gorges 21 = .ok (.getfield 28, 3) := by decide +kernel
theorem dX4_gorges_24 : decode cX4_gorges 24 = .ok (.invokevirtual 98, 3) := by decide +kernel
theorem dX4_gorges_27 : decode cX4_gorges 27 = .ok (.isub, 1) := by decide +kernel
theorem dX4_gorges_28 : decode cX4_gorges 28 = .ok (.istore_n 2, 1) := by decide +kernel
theorem dX4_gorges_29 : decode cX4_gorges 29 = .ok (.iconst 0, 1) := by decide +kernel
theorem dX4_gorges_30 : decode cX4_gorges 30 = .ok (.istore_n 3, 1) := by decide +kernel
theorem dX4_gorges_31 : decode cX4_gorges 31 = .ok (.iconst 0, 1) := by decide +kernel
theorem dX4_gorges_32 : decode cX4_gorges 32 = .ok (.istore 4, 2) := by decide +kernel
theorem dX4_gorges_34 : decode cX4_gorges 34 = .ok (.iload 4, 2) := by decide +kernel
theorem dX4_gorges_36 : decode cX4_gorges 36 = .ok (.iload_n 1, 1) := by decide +kernel
theorem dX4_gorges_37 : decode cX4_gorges 37 = .ok (.if_icmp .ge 83, 3) := by decide +kernel
theorem dX4_gorges_40 : decode cX4_gorges 40 = .ok (.aload_n 0, 1) := by decide +kernel
theorem dX4_gorges_41 : decode cX4_gorges 41 = .ok (.getfield 32, 3) := by decide +kernel
theorem dX4_gorges_44 : decode cX4_gorges 44 = .ok (.aload_n 0, 1) := by decide +kernel
theorem dX4_gorges_45 : decode cX4_gorges 45 = .ok (.getfield 28, 3) := by decide +kernel
theorem dX4_gorges_48 : decode cX4_gorges 48 = .ok (.invokevirtual 164, 3) := by decide +kernel
theorem dX4_gorges_51 : decode cX4_gorges 51 = .ok (.invokevirtual 154, 3) := by decide +kernel
theorem dX4_gorges_54 : decode cX4_gorges 54 = .ok (.iconst 0, 1) := by decide +kernel
theorem dX4_gorges_55 : decode cX4_gorges 55 = .ok (.istore 5, 2) := by decide +kernel
theorem dX4_gorges_57 : decode cX4_gorges 57 = .ok (.iload 5, 2) := by decide +kernel
theorem dX4_gorges_59 : decode cX4_gorges 59 = .ok (.iload_n 2, 1) := by decide +kernel
theorem dX4_gorges_60 : decode cX4_gorges 60 = .ok (.if_icmp .ge 44, 3) := by decide +kernel
theorem dX4_gorges_63 : decode cX4_gorges 63 = .ok (.aload_n 0, 1) := by decide +kernel
theorem dX4_gorges_64 : decode cX4_gorges 64 = .ok (.aload_n 0, 1) := by decide +kernel
theorem dX4_gorges_65 : decode cX4_gorges 65 = .ok (.getfield 57, 3) := by decide +kernel
theorem dX4_gorges_68 : decode cX4_gorges 68 = .ok (.ldc2_w 225, 3) := by decide +kernel
theorem dX4_gorges_71 : decode cX4_gorges 71 = .ok (.lmul, 1) := by decide +kernel
theorem dX4_gorges_72 : decode cX4_gorges 72 = .ok (.ldc2_w 227, 3) := by decide +kernel
theorem dX4_gorges_75 : decode cX4_gorges 75 = .ok (.ladd, 1) := by decide +kernel
theorem dX4_gorges_76 : decode cX4_gorges 76 = .ok (.putfield 57, 3) := by decide +kernel
theorem dX4_gorges_79 : decode cX4_gorges 79 = .ok (.aload_n 0, 1) := by decide +kernel
theorem dX4_gorges_80 : decode cX4_gorges 80 = .ok (.getfield 32, 3) := by decide +kernel
theorem dX4_gorges_83 : decode cX4_gorges 83 = .ok (.aload_n 0, 1) := by decide +kernel
theorem dX4_gorges_84 : decode cX4_gorges 84 = .ok (.getfield 57, 3) := by decide +kernel
theorem dX4_gorges_87 : decode cX4_gorges 87 = .ok (.bipush 33, 2) := by decide +kernel
theorem dX4_gorges_89 : decode cX4_gorges 89 = .ok (.lushr, 1) := by decide +kernel
theorem dX4_gorges_90 : decode cX4_gorges 90 = .ok (.l2i, 1) := by decide +kernel
theorem dX4_gorges_91 : decode cX4_gorges 91 = .ok (.bipush 31, 2) := by decide +kernel
theorem dX4_gorges_93 : decode cX4_gorges 93 = .ok (.iand, 1) := by decide +kernel
theorem dX4_gorges_94 : decode cX4_gorges 94 = .ok (.invokevirtual 141, 3) := by decide +kernel
theorem dX4_gorges_97 : decode cX4_gorges 97 = .ok (.pop, 1) := by decide +kernel
theorem dX4_gorges_98 : decode cX4_gorges 98 = .ok (.iinc 5 1, 3) := by decide +kernel
theorem dX4_gorges_101 : decode cX4_gorges 101 = .ok (.goto (-44), 3) := by decide +kernel
theorem dX4_gorges_104 : decode cX4_gorges 104 = .ok (.iload_n 3, 1) := by decide +kernel
theorem dX4_gorges_105 : decode cX4_gorges 105 = .ok (.aload_n 0, 1) := by decide +kernel
theorem dX4_gorges_106 : decode cX4_gorges 106 = .ok (.getfield 32, 3) := by decide +kernel
theorem dX4_gorges_109 : decode cX4_gorges 109 = .ok (.invokevirtual 144, 3) := by decide +kernel
theorem dX4_gorges_112 : decode cX4_gorges 112 = .ok (.iadd, 1) := by decide +kernel
theorem dX4_gorges_113 : decode cX4_gorges 113 = .ok (.istore_n 3, 1) := by decide +kernel
theorem dX4_gorges_114 : decode cX4_gorges 114 = .ok (.iinc 4 1, 3) := by decide +kernel
theorem dX4_gorges_117 : decode cX4_gorges 117 = .ok (.goto (-83), 3) := by decide +kernel
theorem dX4_gorges_120 : decode cX4_gorges 120 = .ok (.iload_n 3, 1) := by decide +kernel
theorem dX4_gorges_121 : decode cX4_gorges 121 = .ok (.ireturn, 1) := by decide +kernel
theorem dX4_longestSilence_0 : decode cX4_longestSilence 0 = .ok (.iconst 0, 1) := by decide +kernel
theorem dX4_longestSilence_1 : decode cX4_longestSilence 1 = .ok (.istore_n 2, 1) := by decide +kernel
theorem dX4_longestSilence_2 : decode cX4_longestSilence 2 = .ok (.iconst 0, 1) := by decide +kernel
theorem dX4_longestSilence_3 : decode cX4_longestSilence 3 = .ok (.istore_n 3, 1) := by decide +kernel
theorem dX4_longestSilence_4 : decode cX4_longestSilence 4 = .ok (.iconst 0, 1) := by decide +kernel
theorem dX4_longestSilence_5 : decode cX4_longestSilence 5 = .ok (.istore 4, 2) := by decide +kernel
theorem dX4_longestSilence_7 : decode cX4_longestSilence 7 = .ok (.iload 4, 2) := by decide +kernel
theorem dX4_longestSilence_9 : decode cX4_longestSilence 9 = .ok (.iload_n 1, 1) := by decide +kernel
theorem dX4_longestSilence_10 : decode cX4_longestSilence 10 = .ok (.if_icmp .ge 33, 3) := by decide +kernel
theorem dX4_longestSilence_13 : decode cX4_longestSilence 13 = .ok (.iload_n 0, 1) := by decide +kernel
theorem dX4_longestSilence_14 : decode cX4_longestSilence 14 = .ok (.iload 4, 2) := by decide +kernel
theorem dX4_longestSilence_16 : decode cX4_longestSilence 16 = .ok (.ishr, 1) := by decide +kernel
theorem dX4_longestSilence_17 : decode cX4_longestSilence 17 = .ok (.iconst 1, 1) := by decide +kernel
theorem dX4_longestSilence_18 : decode cX4_longestSilence 18 = .ok (.iand, 1) := by decide +kernel
theorem dX4_longestSilence_19 : decode cX4_longestSilence 19 = .ok (.iconst 1, 1) := by decide +kernel
theorem dX4_longestSilence_20 : decode cX4_longestSilence 20 = .ok (.if_icmp .ne 7, 3) := by decide +kernel
theorem dX4_longestSilence_23 : decode cX4_longestSilence 23 = .ok (.iconst 0, 1) := by decide +kernel
theorem dX4_longestSilence_24 : decode cX4_longestSilence 24 = .ok (.goto 6, 3) := by decide +kernel
theorem dX4_longestSilence_27 : decode cX4_longestSilence 27 = .ok (.iload_n 3, 1) := by decide +kernel
theorem dX4_longestSilence_28 : decode cX4_longestSilence 28 = .ok (.iconst 1, 1) := by decide +kernel
theorem dX4_longestSilence_29 : decode cX4_longestSilence 29 = .ok (.iadd, 1) := by decide +kernel
theorem dX4_longestSilence_30 : decode cX4_longestSilence 30 = .ok (.istore_n 3, 1) := by decide +kernel
theorem dX4_longestSilence_31 : decode cX4_longestSilence 31 = .ok (.iload_n 2, 1) := by decide +kernel
theorem dX4_longestSilence_32 : decode cX4_longestSilence 32 = .ok (.iload_n 3, 1) := by decide +kernel
theorem dX4_longestSilence_33 : decode cX4_longestSilence 33 = .ok (.invokestatic 229, 3) := by decide +kernel
theorem dX4_longestSilence_36 : decode cX4_longestSilence 36 = .ok (.istore_n 2, 1) := by decide +kernel
theorem dX4_longestSilence_37 : decode cX4_longestSilence 37 = .ok (.iinc 4 1, 3) := by decide +kernel
theorem dX4_longestSilence_40 : decode cX4_longestSilence 40 = .ok (.goto (-33), 3) := by decide +kernel
theorem dX4_longestSilence_43 : decode cX4_longestSilence 43 = .ok (.iload_n 2, 1) := by decide +kernel
theorem dX4_longestSilence_44 : decode cX4_longestSilence 44 = .ok (.ireturn, 1) := by decide +kernel
set_option maxRecDepth 20000 in
theorem ggX4_keep_X4_within : GoodIn wsX4_keep wsX4_within := goodIn_r _ [6] (by decide +kernel) (by decide +kernel)
set_option maxRecDepth 20000 in
theorem gX4_keep_X4_within : GoodIn wsX4_keep (va_wsS RX4 61 yX4_within wsX4_within) := goodIn_app (goodIn_of _ (by decide +kernel)) ggX4_keep_X4_within
set_option maxRecDepth 20000 in
theorem ggX4_keep_X3_state : GoodIn wsX4_keep wsX3_state := goodIn_r _ [11, 12, 13, 14, 30, 31, 32, 33, 34] (by decide +kernel) (by decide +kernel)
set_option maxRecDepth 20000 in
theorem gX4_keep_X3_state : GoodIn wsX4_keep (wsV RX4 164 RX3 yX3_state wsX3_state) := goodIn_app (goodIn_of _ (by decide +kernel)) ggX4_keep_X3_state
set_option maxRecDepth 20000 in
theorem ggX4_keep_X3_place : GoodIn wsX4_keep wsX3_place := goodIn_r _ [18, 12, 30, 31, 32, 33, 34] (by decide +kernel) (by decide +kernel)
set_option maxRecDepth 20000 in
theorem gX4_keep_X3_place : GoodIn wsX4_keep (wsV RX4 98 RX3 yX3_place wsX3_place) := goodIn_app (goodIn_of _ (by decide +kernel)) ggX4_keep_X3_place
theorem dX4_keep_0 : decode cX4_keep 0 = .ok (.iload_n 1, 1) := by decide +kernel
theorem dX4_keep_1 : decode cX4_keep 1 = .ok (.iconst 0, 1) := by decide +kernel
theorem dX4_keep_2 : decode cX4_keep 2 = .ok (.aload_n 0, 1) := by decide +kernel
theorem dX4_keep_3 : decode cX4_keep 3 = .ok (.getfield 45, 3) := by decide +kernel
theorem dX4_keep_6 : decode cX4_keep 6 = .ok (.arraylength, 1) := by decide +kernel
theorem dX4_keep_7 : decode cX4_keep 7 = .ok (.iconst 1, 1) := by decide +kernel
theorem dX4_keep_8 : decode cX4_keep 8 = .ok (.isub, 1) := by decide +kernel
theorem dX4_keep_9 : decode cX4_keep 9 = .ok (.invokestatic 61, 3) := by decide +kernel
theorem dX4_keep_12 : decode cX4_keep 12 = .ok (.ifCond .ne 5, 3) := by decide +kernel
theorem dX4_keep_15 : decode cX4_keep 15 = .ok (.iconst (-1), 1) := by decide +kernel
theorem dX4_keep_16 : decode cX4_keep 16 = .ok (.ireturn, 1) := by decide +kernel
theorem dX4_keep_17 : decode cX4_keep 17 = .ok (.aload_n 0, 1) := by decide +kernel
theorem dX4_keep_18 : decode cX4_keep 18 = .ok (.getfield 45, 3) := by decide +kernel
theorem dX4_keep_21 : decode cX4_keep 21 = .ok (.iload_n 1, 1) := by decide +kernel
theorem dX4_keep_22 : decode cX4_keep 22 = .ok (.aload_n 0, 1) := by decide +kernel
theorem dX4_keep_23 : decode cX4_keep 23 = .ok (.getfield 28, 3) := by decide +kernel
theorem dX4_keep_26 : decode cX4_keep 26 = .ok (.invokevirtual 164, 3) := by decide +kernel
theorem dX4_keep_29 : decode cX4_keep 29 = .ok (.lastore, 1) := by decide +kernel
theorem dX4_keep_30 : decode cX4_keep 30 = .ok (.aload_n 0, 1) := by decide +kernel
theorem dX4_keep_31 : decode cX4_keep 31 = .ok (.getfield 28, 3) := by decide +kernel
theorem dX4_keep_34 : decode cX4_keep 34 = .ok (.invokevirtual 98, 3) := by decide +kernel
theorem dX4_keep_37 : decode cX4_keep 37 = .ok (.ireturn, 1) := by decide +kernel
set_option maxRecDepth 20000 in
theorem ggX4_again_X4_within : GoodIn wsX4_again wsX4_within := goodIn_r _ [8] (by decide +kernel) (by decide +kernel)
set_option maxRecDepth 20000 in
theorem gX4_again_X4_within : GoodIn wsX4_again (va_wsS RX4 61 yX4_within wsX4_within) := goodIn_app (goodIn_of _ (by decide +kernel)) ggX4_again_X4_within
set_option maxRecDepth 20000 in
theorem ggX4_again_X3_become : GoodIn wsX4_again wsX3_become := goodIn_r _ [13, 14, 15, 16, 17, 33, 34, 35, 36, 37] (by decide +kernel) (by decide +kernel)
set_option maxRecDepth 20000 in
theorem gX4_again_X3_become : GoodIn wsX4_again (wsV RX4 154 RX3 yX3_become wsX3_become) := goodIn_app (goodIn_of _ (by decide +kernel)) ggX4_again_X3_become
set_option maxRecDepth 20000 in
theorem ggX4_again_X3_place : GoodIn wsX4_again wsX3_place := goodIn_r _ [21, 17, 33, 34, 35, 36, 37] (by decide +kernel) (by decide +kernel)
set_option maxRecDepth 20000 in
theorem gX4_again_X3_place : GoodIn wsX4_again (wsV RX4 98 RX3 yX3_place wsX3_place) := goodIn_app (goodIn_of _ (by decide +kernel)) ggX4_again_X3_place
theorem dX4_again_0 : decode cX4_again 0 = .ok (.iload_n 1, 1) := by decide +kernel
theorem dX4_again_1 : decode cX4_again 1 = .ok (.iconst 0, 1) := by decide +kernel
theorem dX4_again_2 : decode cX4_again 2 = .ok (.aload_n 0, 1) := by decide +kernel
theorem dX4_again_3 : decode cX4_again 3 = .ok (.getfield 45, 3) := by decide +kernel
theorem dX4_again_6 : decode cX4_again 6 = .ok (.arraylength, 1) := by decide +kernel
theorem dX4_again_7 : decode cX4_again 7 = .ok (.iconst 1, 1) := by decide +kernel
theorem dX4_again_8 : decode cX4_again 8 = .ok (.isub, 1) := by decide +kernel
theorem dX4_again_9 : decode cX4_again 9 = .ok (.invokestatic 61, 3) := by decide +kernel
theorem dX4_again_12 : decode cX4_again 12 = .ok (.ifCond .ne 5, 3) := by decide +kernel
theorem dX4_again_15 : decode cX4_again 15 = .ok (.iconst (-1), 1) := by decide +kernel
theorem dX4_again_16 : decode cX4_again 16 = .ok (.ireturn, 1) := by decide +kernel
theorem dX4_again_17 : decode cX4_again 17 = .ok (.aload_n 0, 1) := by decide +kernel
theorem dX4_again_18 : decode cX4_again 18 = .ok (.getfield 45, 3) := by decide +kernel
theorem dX4_again_21 : decode cX4_again 21 = .ok (.iload_n 1, 1) := by decide +kernel
theorem dX4_again_22 : decode cX4_again 22 = .ok (.laload, 1) := by decide +kernel
theorem dX4_again_23 : decode cX4_again 23 = .ok (.ldc2_w 43, 3) := by decide +kernel
theorem dX4_again_26 : decode cX4_again 26 = .ok (.lcmp, 1) := by decide +kernel
theorem dX4_again_27 : decode cX4_again 27 = .ok (.ifCond .ne 6, 3) := by decide +kernel
theorem dX4_again_30 : decode cX4_again 30 = .ok (.bipush (-3), 2) := by decide +kernel
theorem dX4_again_32 : decode cX4_again 32 = .ok (.ireturn, 1) := by decide +kernel
theorem dX4_again_33 : decode cX4_again 33 = .ok (.aload_n 0, 1) := by decide +kernel
theorem dX4_again_34 : decode cX4_again 34 = .ok (.getfield 28, 3) := by decide +kernel
theorem dX4_again_37 : decode cX4_again 37 = .ok (.aload_n 0, 1) := by decide +kernel
theorem dX4_again_38 : decode cX4_again 38 = .ok (.getfield 45, 3) := by decide +kernel
theorem dX4_again_41 : decode cX4_again 41 = .ok (.iload_n 1, 1) := by decide +kernel
theorem dX4_again_42 : decode cX4_again 42 = .ok (.laload, 1) := by decide +kernel
theorem dX4_again_43 : decode cX4_again 43 = .ok (.invokevirtual 154, 3) := by decide +kernel
theorem dX4_again_46 : decode cX4_again 46 = .ok (.aload_n 0, 1) := by decide +kernel
theorem dX4_again_47 : decode cX4_again 47 = .ok (.iconst 0, 1) := by decide +kernel
theorem dX4_again_48 : decode cX4_again 48 = .ok (.putfield 39, 3) := by decide +kernel
theorem dX4_again_51 : decode cX4_again 51 = .ok (.aload_n 0, 1) := by decide +kernel
theorem dX4_again_52 : decode cX4_again 52 = .ok (.getfield 28, 3) := by decide +kernel
theorem dX4_again_55 : decode cX4_again 55 = .ok (.invokevirtual 98, 3) := by decide +kernel
theorem dX4_again_58 : decode cX4_again 58 = .ok (.ireturn, 1) := by decide +kernel
theorem dX4_forgetKept_0 : decode cX4_forgetKept 0 = .ok (.iconst 0, 1) := by decide +kernel
theorem dX4_forgetKept_1 : decode cX4_forgetKept 1 = .ok (.istore_n 1, 1) := by decide +kernel
theorem dX4_forgetKept_2 : decode cX4_forgetKept 2 = .ok (.iload_n 1, 1) := by decide +kernel
theorem dX4_forgetKept_3 : decode cX4_forgetKept 3 = .ok (.aload_n 0, 1) := by decide +kernel
theorem dX4_forgetKept_4 : decode cX4_forgetKept 4 = .ok (.getfield 45, 3) := by decide +kernel
theorem dX4_forgetKept_7 : decode cX4_forgetKept 7 = .ok (.arraylength, 1) := by decide +kernel
theorem dX4_forgetKept_8 : decode cX4_forgetKept 8 = .ok (.if_icmp .ge 18, 3) := by decide +kernel
theorem dX4_forgetKept_11 : decode cX4_forgetKept 11 = .ok (.aload_n 0, 1) := by decide +kernel
theorem dX4_forgetKept_12 : decode cX4_forgetKept 12 = .ok (.getfield 45, 3) := by decide +kernel
theorem dX4_forgetKept_15 : decode cX4_forgetKept 15 = .ok (.iload_n 1, 1) := by decide +kernel
theorem dX4_forgetKept_16 : decode cX4_forgetKept 16 = .ok (.ldc2_w 43, 3) := by decide +kernel
theorem dX4_forgetKept_19 : decode cX4_forgetKept 19 = .ok (.lastore, 1) := by decide +kernel
theorem dX4_forgetKept_20 : decode cX4_forgetKept 20 = .ok (.iinc 1 1, 3) := by decide +kernel
theorem dX4_forgetKept_23 : decode cX4_forgetKept 23 = .ok (.goto (-21), 3) := by decide +kernel
theorem dX4_forgetKept_26 : decode cX4_forgetKept 26 = .ok (.return_, 1) := by decide +kernel
theorem dX4_within_0 : decode cX4_within 0 = .ok (.iload_n 0, 1) := by decide +kernel
theorem dX4_within_1 : decode cX4_within 1 = .ok (.iload_n 1, 1) := by decide +kernel
theorem dX4_within_2 : decode cX4_within 2 = .ok (.if_icmp .lt 12, 3) := by decide +kernel
theorem dX4_within_5 : decode cX4_within 5 = .ok (.iload_n 0, 1) := by decide +kernel
theorem dX4_within_6 : decode cX4_within 6 = .ok (.iload_n 2, 1) := by decide +kernel
theorem dX4_within_7 : decode cX4_within 7 = .ok (.if_icmp .gt 7, 3) := by decide +kernel
theorem dX4_within_10 : decode cX4_within 10 = .ok (.iconst 1, 1) := by decide +kernel
theorem dX4_within_11 : decode cX4_within 11 = .ok (.goto 4, 3) := by decide +kernel
theorem dX4_within_14 : decode cX4_within 14 = .ok (.iconst 0, 1) := by decide +kernel
theorem dX4_within_15 : decode cX4_within 15 = .ok (.ireturn, 1) := by decide +kernel
set_option maxRecDepth 20000 in
theorem ggX4_isTenths_X4_within : GoodIn wsX4_isTenths wsX4_within := goodIn_r _ [4] (by decide +kernel) (by decide +kernel)
set_option maxRecDepth 20000 in
theorem gX4_isTenths_X4_within : GoodIn wsX4_isTenths (va_wsS RX4 61 yX4_within wsX4_within) := goodIn_app (goodIn_of _ (by decide +kernel)) ggX4_isTenths_X4_within
theorem dX4_isTenths_0 : decode cX4_isTenths 0 = .ok (.iload_n 0, 1) := by decide +kernel
theorem dX4_isTenths_1 : decode cX4_isTenths 1 = .ok (.iconst 0, 1) := by decide +kernel
theorem dX4_isTenths_2 : decode cX4_isTenths 2 = .ok (.bipush 10, 2) := by decide +kernel
theorem dX4_isTenths_4 : decode cX4_isTenths 4 = .ok (.invokestatic 61, 3) := by decide +kernel
theorem dX4_isTenths_7 : decode cX4_isTenths 7 = .ok (.ireturn, 1) := by decide +kernel
theorem dX4_factorial_0 : decode cX4_factorial 0 = .ok (.iconst 1, 1) := by decide +kernel
theorem dX4_factorial_1 : decode cX4_factorial 1 = .ok (.istore_n 1, 1) := by decide +kernel
theorem dX4_factorial_2 : decode cX4_factorial 2 = .ok (.iconst 2, 1) := by decide +kernel
theorem dX4_factorial_3 : decode cX4_factorial 3 = .ok (.istore_n 2, 1) := by decide +kernel
theorem dX4_factorial_4 : decode cX4_factorial 4 = .ok (.iload_n 2, 1) := by decide +kernel
theorem dX4_factorial_5 : decode cX4_factorial 5 = .ok (.iload_n 0, 1) := by decide +kernel
theorem dX4_factorial_6 : decode cX4_factorial 6 = .ok (.if_icmp .gt 13, 3) := by decide +kernel
theorem dX4_factorial_9 : decode cX4_factorial 9 = .ok (.iload_n 1, 1) := by decide +kernel
theorem dX4_factorial_10 : decode cX4_factorial 10 = .ok (.iload_n 2, 1) := by decide +kernel
theorem dX4_factorial_11 : decode cX4_factorial 11 = .ok (.imul, 1) := by decide +kernel
theorem dX4_factorial_12 : decode cX4_factorial 12 = .ok (.istore_n 1, 1) := by decide +kernel
theorem dX4_factorial_13 : decode cX4_factorial 13 = .ok (.iinc 2 1, 3) := by decide +kernel
theorem dX4_factorial_16 : decode cX4_factorial 16 = .ok (.goto (-12), 3) := by decide +kernel
theorem dX4_factorial_19 : decode cX4_factorial 19 = .ok (.iload_n 1, 1) := by decide +kernel
theorem dX4_factorial_20 : decode cX4_factorial 20 = .ok (.ireturn, 1) := by decide +kernel
theorem dX4_power_0 : decode cX4_power 0 = .ok (.lconst 1, 1) := by decide +kernel
theorem dX4_power_1 : decode cX4_power 1 = .ok (.lstore_n 2, 1) := by decide +kernel
theorem dX4_power_2 : decode cX4_power 2 = .ok (.iconst 0, 1) := by decide +kernel
theorem dX4_power_3 : decode cX4_power 3 = .ok (.istore 4, 2) := by decide +kernel
theorem dX4_power_5 : decode cX4_power 5 = .ok (.iload 4, 2) := by decide +kernel
theorem dX4_power_7 : decode cX4_power 7 = .ok (.iload_n 1, 1) := by decide +kernel
theorem dX4_power_8 : decode cX4_power 8 = .ok (.if_icmp .ge 14, 3) := by decide +kernel
theorem dX4_power_11 : decode cX4_power 11 = .ok (.lload_n 2, 1) := by decide +kernel
theorem dX4_power_12 : decode cX4_power 12 = .ok (.iload_n 0, 1) := by decide +kernel
theorem dX4_power_13 : decode cX4_power 13 = .ok (.i2l, 1) := by decide +kernel
theorem dX4_power_14 : decode cX4_power 14 = .ok (.lmul, 1) := by decide +kernel
theorem dX4_power_15 : decode cX4_power 15 = .ok (.lstore_n 2, 1) := by decide +kernel
theorem dX4_power_16 : decode cX4_power 16 = .ok (.iinc 4 1, 3) := by decide +kernel
theorem dX4_power_19 : decode cX4_power 19 = .ok (.goto (-14), 3) := by decide +kernel
theorem dX4_power_22 : decode cX4_power 22 = .ok (.lload_n 2, 1) := by decide +kernel
theorem dX4_power_23 : decode cX4_power 23 = .ok (.lreturn, 1) := by decide +kernel
set_option maxRecDepth 20000 in
theorem ggX4_fraction_X4_commonDivisor : GoodIn wsX4_fraction wsX4_commonDivisor := goodIn_r _ [8] (by decide +kernel) (by decide +kernel)
set_option maxRecDepth 20000 in
theorem gX4_fraction_X4_commonDivisor : GoodIn wsX4_fraction (va_wsS RX4 238 yX4_commonDivisor wsX4_commonDivisor) := goodIn_app (goodIn_of _ (by decide +kernel)) ggX4_fraction_X4_commonDivisor
theorem dX4_fraction_0 : decode cX4_fraction 0 = .ok (.lload_n 0, 1) := by decide +kernel
theorem dX4_fraction_1 : decode cX4_fraction 1 = .ok (.invokestatic 234, 3) := by decide +kernel
theorem dX4_fraction_4 : decode cX4_fraction 4 = .ok (.lload_n 2, 1) := by decide +kernel
theorem dX4_fraction_5 : decode cX4_fraction 5 = .ok (.invokestatic 238, 3) := by decide +kernel
theorem dX4_fraction_8 : decode cX4_fraction 8 = .ok (.lstore 5, 2) := by decide +kernel
theorem dX4_fraction_10 : decode cX4_fraction 10 = .ok (.lload 5, 2) := by decide +kernel
theorem dX4_fraction_12 : decode cX4_fraction 12 = .ok (.lconst 0, 1) := by decide +kernel
theorem dX4_fraction_13 : decode cX4_fraction 13 = .ok (.lcmp, 1) := by decide +kernel
theorem dX4_fraction_14 : decode cX4_fraction 14 = .ok (.ifCond .ne 5, 3) := by decide +kernel
theorem dX4_fraction_17 : decode cX4_fraction 17 = .ok (.iconst 0, 1) := by decide +kernel
theorem dX4_fraction_18 : decode cX4_fraction 18 = .ok (.ireturn, 1) := by decide +kernel
theorem dX4_fraction_19 : decode cX4_fraction 19 = .ok (.iload 4, 2) := by decide +kernel
theorem dX4_fraction_21 : decode cX4_fraction 21 = .ok (.ifCond .eq 7, 3) := by decide +kernel
theorem dX4_fraction_24 : decode cX4_fraction 24 = .ok (.lload_n 0, 1) := by decide +kernel
theorem dX4_fraction_25 : decode cX4_fraction 25 = .ok (.goto 4, 3) := by decide +kernel
theorem dX4_fraction_28 : decode cX4_fraction 28 = .ok (.lload_n 2, 1) := by decide +kernel
theorem dX4_fraction_29 : decode cX4_fraction 29 = .ok (.lload 5, 2) := by decide +kernel
theorem dX4_fraction_31 : decode cX4_fraction 31 = .ok (.ldiv, 1) := by decide +kernel
theorem dX4_fraction_32 : decode cX4_fraction 32 = .ok (.l2i, 1) := by decide +kernel
theorem dX4_fraction_33 : decode cX4_fraction 33 = .ok (.ireturn, 1) := by decide +kernel
theorem dX4_commonDivisor_0 : decode cX4_commonDivisor 0 = .ok (.lload_n 0, 1) := by decide +kernel
theorem dX4_commonDivisor_1 : decode cX4_commonDivisor 1 = .ok (.lstore 4, 2) := by decide +kernel
theorem dX4_commonDivisor_3 : decode cX4_commonDivisor 3 = .ok (.lload_n 2, 1) := by decide +kernel
theorem dX4_commonDivisor_4 : decode cX4_commonDivisor 4 = .ok (.lstore 6, 2) := by decide +kernel
theorem dX4_commonDivisor_6 : decode cX4_commonDivisor 6 = .ok (.iconst 0, 1) := by decide +kernel
theorem dX4_commonDivisor_7 : decode cX4_commonDivisor 7 = .ok (.istore 8, 2) := by decide +kernel
theorem dX4_commonDivisor_9 : decode cX4_commonDivisor 9 = .ok (.iload 8, 2) := by decide +kernel
theorem dX4_commonDivisor_11 : decode cX4_commonDivisor 11 = .ok (.bipush 100, 2) := by decide +kernel
theorem dX4_commonDivisor_13 : decode cX4_commonDivisor 13 = .ok (.if_icmp .ge 31, 3) := by decide +kernel
theorem dX4_commonDivisor_16 : decode cX4_commonDivisor 16 = .ok (.lload 6, 2) := by decide +kernel
theorem dX4_commonDivisor_18 : decode cX4_commonDivisor 18 = .ok (.lconst 0, 1) := by decide +kernel
theorem dX4_commonDivisor_19 : decode cX4_commonDivisor 19 = .ok (.lcmp, 1) := by decide +kernel
theorem dX4_commonDivisor_20 : decode cX4_commonDivisor 20 = .ok (.ifCond .eq 24, 3) := by decide +kernel
theorem dX4_commonDivisor_23 : decode cX4_commonDivisor 23 = .ok (.lload 4, 2) := by decide +kernel
theorem dX4_commonDivisor_25 : decode cX4_commonDivisor 25 = .ok (.lload 6, 2) := by decide +kernel
theorem dX4_commonDivisor_27 : decode cX4_commonDivisor 27 = .ok (.lrem, 1) := by decide +kernel
theorem dX4_commonDivisor_28 : decode cX4_commonDivisor 28 = .ok (.lstore 9, 2) := by decide +kernel
theorem dX4_commonDivisor_30 : decode cX4_commonDivisor 30 = .ok (.lload 6, 2) := by decide +kernel
theorem dX4_commonDivisor_32 : decode cX4_commonDivisor 32 = .ok (.lstore 4, 2) := by decide +kernel
theorem dX4_commonDivisor_34 : decode cX4_commonDivisor 34 = .ok (.lload 9, 2) := by decide +kernel
theorem dX4_commonDivisor_36 : decode cX4_commonDivisor 36 = .ok (.lstore 6, 2) := by decide +kernel
theorem dX4_commonDivisor_38 : decode cX4_commonDivisor 38 = .ok (.iinc 8 1, 3) := by decide +kernel
theorem dX4_commonDivisor_41 : decode cX4_commonDivisor 41 = .ok (.goto (-32), 3) := by decide +kernel
theorem dX4_commonDivisor_44 : decode cX4_commonDivisor 44 = .ok (.lload 4, 2) := by decide +kernel
theorem dX4_commonDivisor_46 : decode cX4_commonDivisor 46 = .ok (.lreturn, 1) := by decide +kernel
