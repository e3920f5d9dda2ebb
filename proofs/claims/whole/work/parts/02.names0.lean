theorem dX0_at_0 : decode cX0_at 0 = .ok (.iload_n 0, 1) := by decide +kernel
theorem dX0_at_1 : decode cX0_at 1 = .ok (.iconst 4, 1) := by decide +kernel
theorem dX0_at_2 : decode cX0_at 2 = .ok (.iload_n 1, 1) := by decide +kernel
theorem dX0_at_3 : decode cX0_at 3 = .ok (.imul, 1) := by decide +kernel
theorem dX0_at_4 : decode cX0_at 4 = .ok (.iushr, 1) := by decide +kernel
theorem dX0_at_5 : decode cX0_at 5 = .ok (.bipush 15, 2) := by decide +kernel
theorem dX0_at_7 : decode cX0_at 7 = .ok (.iand, 1) := by decide +kernel
theorem dX0_at_8 : decode cX0_at 8 = .ok (.ireturn, 1) := by decide +kernel
theorem dX0_with_0 : decode cX0_with 0 = .ok (.iload_n 0, 1) := by decide +kernel
theorem dX0_with_1 : decode cX0_with 1 = .ok (.bipush 15, 2) := by decide +kernel
theorem dX0_with_3 : decode cX0_with 3 = .ok (.iconst 4, 1) := by decide +kernel
theorem dX0_with_4 : decode cX0_with 4 = .ok (.iload_n 1, 1) := by decide +kernel
theorem dX0_with_5 : decode cX0_with 5 = .ok (.imul, 1) := by decide +kernel
theorem dX0_with_6 : decode cX0_with 6 = .ok (.ishl, 1) := by decide +kernel
theorem dX0_with_7 : decode cX0_with 7 = .ok (.iconst (-1), 1) := by decide +kernel
theorem dX0_with_8 : decode cX0_with 8 = .ok (.ixor, 1) := by decide +kernel
theorem dX0_with_9 : decode cX0_with 9 = .ok (.iand, 1) := by decide +kernel
theorem dX0_with_10 : decode cX0_with 10 = .ok (.iload_n 2, 1) := by decide +kernel
theorem dX0_with_11 : decode cX0_with 11 = .ok (.iconst 4, 1) := by decide +kernel
theorem dX0_with_12 : decode cX0_with 12 = .ok (.iload_n 1, 1) := by decide +kernel
theorem dX0_with_13 : decode cX0_with 13 = .ok (.imul, 1) := by decide +kernel
theorem dX0_with_14 : decode cX0_with 14 = .ok (.ishl, 1) := by decide +kernel
theorem dX0_with_15 : decode cX0_with 15 = .ok (.ior, 1) := by decide +kernel
theorem dX0_with_16 : decode cX0_with 16 = .ok (.ireturn, 1) := by decide +kernel
set_option maxRecDepth 20000 in
theorem ggX0_swapped_X0_at : GoodIn wsX0_swapped wsX0_at := goodIn_r _ [4] (by decide +kernel) (by decide +kernel)
set_option maxRecDepth 20000 in
theorem gX0_swapped_X0_at : GoodIn wsX0_swapped (va_wsS RX0 9 yX0_at wsX0_at) := goodIn_app (goodIn_of _ (by decide +kernel)) ggX0_swapped_X0_at
set_option maxRecDepth 20000 in
theorem ggX0_swapped_X0_with : GoodIn wsX0_swapped wsX0_with := goodIn_r _ [7] (by decide +kernel) (by decide +kernel)
set_option maxRecDepth 20000 in
theorem gX0_swapped_X0_with : GoodIn wsX0_swapped (va_wsS RX0 15 yX0_with wsX0_with) := goodIn_app (goodIn_of _ (by decide +kernel)) ggX0_swapped_X0_with
theorem dX0_swapped_0 : decode cX0_swapped 0 = .ok (.iload_n 0, 1) := by decide +kernel
theorem dX0_swapped_1 : decode cX0_swapped 1 = .ok (.iload_n 1, 1) := by decide +kernel
theorem dX0_swapped_2 : decode cX0_swapped 2 = .ok (.iload_n 0, 1) := by decide +kernel
theorem dX0_swapped_3 : decode cX0_swapped 3 = .ok (.iload_n 2, 1) := by decide +kernel
theorem dX0_swapped_4 : decode cX0_swapped 4 = .ok (.invokestatic 9, 3) := by decide +kernel
theorem dX0_swapped_7 : decode cX0_swapped 7 = .ok (.invokestatic 15, 3) := by decide +kernel
theorem dX0_swapped_10 : decode cX0_swapped 10 = .ok (.iload_n 2, 1) := by decide +kernel
theorem dX0_swapped_11 : decode cX0_swapped 11 = .ok (.iload_n 0, 1) := by decide +kernel
theorem dX0_swapped_12 : decode cX0_swapped 12 = .ok (.iload_n 1, 1) := by decide +kernel
theorem dX0_swapped_13 : decode cX0_swapped 13 = .ok (.invokestatic 9, 3) := by decide +kernel
theorem dX0_swapped_16 : decode cX0_swapped 16 = .ok (.invokestatic 15, 3) := by decide +kernel
theorem dX0_swapped_19 : decode cX0_swapped 19 = .ok (.ireturn, 1) := by decide +kernel
theorem dX0_without_0 : decode cX0_without 0 = .ok (.iconst 1, 1) := by decide +kernel
theorem dX0_without_1 : decode cX0_without 1 = .ok (.iconst 4, 1) := by decide +kernel
theorem dX0_without_2 : decode cX0_without 2 = .ok (.iload_n 1, 1) := by decide +kernel
theorem dX0_without_3 : decode cX0_without 3 = .ok (.imul, 1) := by decide +kernel
theorem dX0_without_4 : decode cX0_without 4 = .ok (.ishl, 1) := by decide +kernel
theorem dX0_without_5 : decode cX0_without 5 = .ok (.iconst 1, 1) := by decide +kernel
theorem dX0_without_6 : decode cX0_without 6 = .ok (.isub, 1) := by decide +kernel
theorem dX0_without_7 : decode cX0_without 7 = .ok (.istore_n 2, 1) := by decide +kernel
theorem dX0_without_8 : decode cX0_without 8 = .ok (.iload_n 0, 1) := by decide +kernel
theorem dX0_without_9 : decode cX0_without 9 = .ok (.iload_n 2, 1) := by decide +kernel
theorem dX0_without_10 : decode cX0_without 10 = .ok (.iand, 1) := by decide +kernel
theorem dX0_without_11 : decode cX0_without 11 = .ok (.iload_n 0, 1) := by decide +kernel
theorem dX0_without_12 : decode cX0_without 12 = .ok (.iconst 4, 1) := by decide +kernel
theorem dX0_without_13 : decode cX0_without 13 = .ok (.iushr, 1) := by decide +kernel
theorem dX0_without_14 : decode cX0_without 14 = .ok (.iload_n 2, 1) := by decide +kernel
theorem dX0_without_15 : decode cX0_without 15 = .ok (.iconst (-1), 1) := by decide +kernel
theorem dX0_without_16 : decode cX0_without 16 = .ok (.ixor, 1) := by decide +kernel
theorem dX0_without_17 : decode cX0_without 17 = .ok (.iand, 1) := by decide +kernel
theorem dX0_without_18 : decode cX0_without 18 = .ok (.ior, 1) := by decide +kernel
theorem dX0_without_19 : decode cX0_without 19 = .ok (.ireturn, 1) := by decide +kernel
set_option maxRecDepth 20000 in
theorem ggX0_size_X0_at : GoodIn wsX0_size wsX0_at := goodIn_r _ [4] (by decide +kernel) (by decide +kernel)
set_option maxRecDepth 20000 in
theorem gX0_size_X0_at : GoodIn wsX0_size (va_wsS RX0 9 yX0_at wsX0_at) := goodIn_app (goodIn_of _ (by decide +kernel)) ggX0_size_X0_at
theorem dX0_size_0 : decode cX0_size 0 = .ok (.iconst 0, 1) := by decide +kernel
theorem dX0_size_1 : decode cX0_size 1 = .ok (.istore_n 1, 1) := by decide +kernel
theorem dX0_size_2 : decode cX0_size 2 = .ok (.iload_n 1, 1) := by decide +kernel
theorem dX0_size_3 : decode cX0_size 3 = .ok (.iconst 5, 1) := by decide +kernel
theorem dX0_size_4 : decode cX0_size 4 = .ok (.if_icmp .ge 17, 3) := by decide +kernel
theorem dX0_size_7 : decode cX0_size 7 = .ok (.iload_n 0, 1) := by decide +kernel
theorem dX0_size_8 : decode cX0_size 8 = .ok (.iload_n 1, 1) := by decide +kernel
theorem dX0_size_9 : decode cX0_size 9 = .ok (.invokestatic 9, 3) := by decide +kernel
theorem dX0_size_12 : decode cX0_size 12 = .ok (.ifCond .eq 9, 3) := by decide +kernel
theorem dX0_size_15 : decode cX0_size 15 = .ok (.iinc 1 1, 3) := by decide +kernel
theorem dX0_size_18 : decode cX0_size 18 = .ok (.goto (-16), 3) := by decide +kernel
theorem dX0_size_21 : decode cX0_size 21 = .ok (.iload_n 1, 1) := by decide +kernel
theorem dX0_size_22 : decode cX0_size 22 = .ok (.ireturn, 1) := by decide +kernel
set_option maxRecDepth 20000 in
theorem ggX0_members_X0_size : GoodIn wsX0_members wsX0_size := goodIn_r _ [4, 5, 6, 3, 7] (by decide +kernel) (by decide +kernel)
set_option maxRecDepth 20000 in
theorem gX0_members_X0_size : GoodIn wsX0_members (va_wsS RX0 19 yX0_size wsX0_size) := goodIn_app (goodIn_of _ (by decide +kernel)) ggX0_members_X0_size
set_option maxRecDepth 20000 in
theorem ggX0_members_X0_at : GoodIn wsX0_members wsX0_at := goodIn_r _ [7] (by decide +kernel) (by decide +kernel)
set_option maxRecDepth 20000 in
theorem gX0_members_X0_at : GoodIn wsX0_members (va_wsS RX0 9 yX0_at wsX0_at) := goodIn_app (goodIn_of _ (by decide +kernel)) ggX0_members_X0_at
theorem dX0_members_0 : decode cX0_members 0 = .ok (.iconst 0, 1) := by decide +kernel
theorem dX0_members_1 : decode cX0_members 1 = .ok (.istore_n 1, 1) := by decide +kernel
theorem dX0_members_2 : decode cX0_members 2 = .ok (.iconst 0, 1) := by decide +kernel
theorem dX0_members_3 : decode cX0_members 3 = .ok (.istore_n 2, 1) := by decide +kernel
theorem dX0_members_4 : decode cX0_members 4 = .ok (.iload_n 2, 1) := by decide +kernel
theorem dX0_members_5 : decode cX0_members 5 = .ok (.iload_n 0, 1) := by decide +kernel
theorem dX0_members_6 : decode cX0_members 6 = .ok (.invokestatic 19, 3) := by decide +kernel
theorem dX0_members_9 : decode cX0_members 9 = .ok (.if_icmp .ge 21, 3) := by decide +kernel
theorem dX0_members_12 : decode cX0_members 12 = .ok (.iload_n 1, 1) := by decide +kernel
theorem dX0_members_13 : decode cX0_members 13 = .ok (.iconst 1, 1) := by decide +kernel
theorem dX0_members_14 : decode cX0_members 14 = .ok (.iload_n 0, 1) := by decide +kernel
theorem dX0_members_15 : decode cX0_members 15 = .ok (.iload_n 2, 1) := by decide +kernel
theorem dX0_members_16 : decode cX0_members 16 = .ok (.invokestatic 9, 3) := by decide +kernel
theorem dX0_members_19 : decode cX0_members 19 = .ok (.iconst 1, 1) := by decide +kernel
theorem dX0_members_20 : decode cX0_members 20 = .ok (.isub, 1) := by decide +kernel
theorem dX0_members_21 : decode cX0_members 21 = .ok (.ishl, 1) := by decide +kernel
theorem dX0_members_22 : decode cX0_members 22 = .ok (.ior, 1) := by decide +kernel
theorem dX0_members_23 : decode cX0_members 23 = .ok (.istore_n 1, 1) := by decide +kernel
theorem dX0_members_24 : decode cX0_members 24 = .ok (.iinc 2 1, 3) := by decide +kernel
theorem dX0_members_27 : decode cX0_members 27 = .ok (.goto (-23), 3) := by decide +kernel
theorem dX0_members_30 : decode cX0_members 30 = .ok (.iload_n 1, 1) := by decide +kernel
theorem dX0_members_31 : decode cX0_members 31 = .ok (.ireturn, 1) := by decide +kernel
set_option maxRecDepth 20000 in
theorem ggX0_figures_X0_size : GoodIn wsX0_figures wsX0_size := goodIn_r _ [4, 5, 6, 3, 7] (by decide +kernel) (by decide +kernel)
set_option maxRecDepth 20000 in
theorem gX0_figures_X0_size : GoodIn wsX0_figures (va_wsS RX0 19 yX0_size wsX0_size) := goodIn_app (goodIn_of _ (by decide +kernel)) ggX0_figures_X0_size
set_option maxRecDepth 20000 in
theorem ggX0_figures_X0_at : GoodIn wsX0_figures wsX0_at := goodIn_r _ [7] (by decide +kernel) (by decide +kernel)
set_option maxRecDepth 20000 in
theorem gX0_figures_X0_at : GoodIn wsX0_figures (va_wsS RX0 9 yX0_at wsX0_at) := goodIn_app (goodIn_of _ (by decide +kernel)) ggX0_figures_X0_at
theorem dX0_figures_0 : decode cX0_figures 0 = .ok (.iconst 0, 1) := by decide +kernel
theorem dX0_figures_1 : decode cX0_figures 1 = .ok (.istore_n 1, 1) := by decide +kernel
theorem dX0_figures_2 : decode cX0_figures 2 = .ok (.iconst 0, 1) := by decide +kernel
theorem dX0_figures_3 : decode cX0_figures 3 = .ok (.istore_n 2, 1) := by decide +kernel
theorem dX0_figures_4 : decode cX0_figures 4 = .ok (.iload_n 2, 1) := by decide +kernel
theorem dX0_figures_5 : decode cX0_figures 5 = .ok (.iload_n 0, 1) := by decide +kernel
theorem dX0_figures_6 : decode cX0_figures 6 = .ok (.invokestatic 19, 3) := by decide +kernel
theorem dX0_figures_9 : decode cX0_figures 9 = .ok (.if_icmp .ge 20, 3) := by decide +kernel
theorem dX0_figures_12 : decode cX0_figures 12 = .ok (.iload_n 1, 1) := by decide +kernel
theorem dX0_figures_13 : decode cX0_figures 13 = .ok (.bipush 10, 2) := by decide +kernel
theorem dX0_figures_15 : decode cX0_figures 15 = .ok (.imul, 1) := by decide +kernel
theorem dX0_figures_16 : decode cX0_figures 16 = .ok (.iload_n 0, 1) := by decide +kernel
theorem dX0_figures_17 : decode cX0_figures 17 = .ok (.iload_n 2, 1) := by decide +kernel
theorem dX0_figures_18 : decode cX0_figures 18 = .ok (.invokestatic 9, 3) := by decide +kernel
theorem dX0_figures_21 : decode cX0_figures 21 = .ok (.iadd, 1) := by decide +kernel
theorem dX0_figures_22 : decode cX0_figures 22 = .ok (.istore_n 1, 1) := by decide +kernel
theorem dX0_figures_23 : decode cX0_figures 23 = .ok (.iinc 2 1, 3) := by decide +kernel
theorem dX0_figures_26 : decode cX0_figures 26 = .ok (.goto (-22), 3) := by decide +kernel
theorem dX0_figures_29 : decode cX0_figures 29 = .ok (.iload_n 1, 1) := by decide +kernel
theorem dX0_figures_30 : decode cX0_figures 30 = .ok (.ireturn, 1) := by decide +kernel
set_option maxRecDepth 20000 in
theorem ggX0_only_X0_size : GoodIn wsX0_only wsX0_size := goodIn_r _ [4, 5, 6, 3, 7] (by decide +kernel) (by decide +kernel)
set_option maxRecDepth 20000 in
theorem gX0_only_X0_size : GoodIn wsX0_only (va_wsS RX0 19 yX0_size wsX0_size) := goodIn_app (goodIn_of _ (by decide +kernel)) ggX0_only_X0_size
set_option maxRecDepth 20000 in
theorem ggX0_only_X0_at : GoodIn wsX0_only wsX0_at := goodIn_r _ [7] (by decide +kernel) (by decide +kernel)
set_option maxRecDepth 20000 in
theorem gX0_only_X0_at : GoodIn wsX0_only (va_wsS RX0 9 yX0_at wsX0_at) := goodIn_app (goodIn_of _ (by decide +kernel)) ggX0_only_X0_at
set_option maxRecDepth 20000 in
theorem ggX0_only_X0_without : GoodIn wsX0_only wsX0_without := goodIn_r _ [10] (by decide +kernel) (by decide +kernel)
set_option maxRecDepth 20000 in
theorem gX0_only_X0_without : GoodIn wsX0_only (va_wsS RX0 23 yX0_without wsX0_without) := goodIn_app (goodIn_of _ (by decide +kernel)) ggX0_only_X0_without
theorem dX0_only_0 : decode cX0_only 0 = .ok (.iload_n 0, 1) := by decide +kernel
theorem dX0_only_1 : decode cX0_only 1 = .ok (.istore_n 2, 1) := by decide +kernel
theorem dX0_only_2 : decode cX0_only 2 = .ok (.iload_n 0, 1) := by decide +kernel
theorem dX0_only_3 : decode cX0_only 3 = .ok (.invokestatic 19, 3) := by decide +kernel
theorem dX0_only_6 : decode cX0_only 6 = .ok (.iconst 1, 1) := by decide +kernel
theorem dX0_only_7 : decode cX0_only 7 = .ok (.isub, 1) := by decide +kernel
theorem dX0_only_8 : decode cX0_only 8 = .ok (.istore_n 3, 1) := by decide +kernel
theorem dX0_only_9 : decode cX0_only 9 = .ok (.iload_n 3, 1) := by decide +kernel
theorem dX0_only_10 : decode cX0_only 10 = .ok (.ifCond .lt 29, 3) := by decide +kernel
theorem dX0_only_13 : decode cX0_only 13 = .ok (.iload_n 1, 1) := by decide +kernel
theorem dX0_only_14 : decode cX0_only 14 = .ok (.iload_n 0, 1) := by decide +kernel
theorem dX0_only_15 : decode cX0_only 15 = .ok (.iload_n 3, 1) := by decide +kernel
theorem dX0_only_16 : decode cX0_only 16 = .ok (.invokestatic 9, 3) := by decide +kernel
theorem dX0_only_19 : decode cX0_only 19 = .ok (.iconst 1, 1) := by decide +kernel
theorem dX0_only_20 : decode cX0_only 20 = .ok (.isub, 1) := by decide +kernel
theorem dX0_only_21 : decode cX0_only 21 = .ok (.ishr, 1) := by decide +kernel
theorem dX0_only_22 : decode cX0_only 22 = .ok (.iconst 1, 1) := by decide +kernel
theorem dX0_only_23 : decode cX0_only 23 = .ok (.iand, 1) := by decide +kernel
theorem dX0_only_24 : decode cX0_only 24 = .ok (.ifCond .ne 9, 3) := by decide +kernel
theorem dX0_only_27 : decode cX0_only 27 = .ok (.iload_n 2, 1) := by decide +kernel
theorem dX0_only_28 : decode cX0_only 28 = .ok (.iload_n 3, 1) := by decide +kernel
theorem dX0_only_29 : decode cX0_only 29 = .ok (.invokestatic 23, 3) := by decide +kernel
theorem dX0_only_32 : decode cX0_only 32 = .ok (.istore_n 2, 1) := by decide +kernel
theorem dX0_only_33 : decode cX0_only 33 = .ok (.iinc 3 (-1), 3) := by decide +kernel
theorem dX0_only_36 : decode cX0_only 36 = .ok (.goto (-27), 3) := by decide +kernel
theorem dX0_only_39 : decode cX0_only 39 = .ok (.iload_n 2, 1) := by decide +kernel
theorem dX0_only_40 : decode cX0_only 40 = .ok (.ireturn, 1) := by decide +kernel
set_option maxRecDepth 20000 in
theorem ggX0_ascending_X0_with : GoodIn wsX0_ascending wsX0_with := goodIn_r _ [4] (by decide +kernel) (by decide +kernel)
set_option maxRecDepth 20000 in
theorem gX0_ascending_X0_with : GoodIn wsX0_ascending (va_wsS RX0 15 yX0_with wsX0_with) := goodIn_app (goodIn_of _ (by decide +kernel)) ggX0_ascending_X0_with
theorem dX0_ascending_0 : decode cX0_ascending 0 = .ok (.iconst 0, 1) := by decide +kernel
theorem dX0_ascending_1 : decode cX0_ascending 1 = .ok (.istore_n 1, 1) := by decide +kernel
theorem dX0_ascending_2 : decode cX0_ascending 2 = .ok (.iconst 0, 1) := by decide +kernel
theorem dX0_ascending_3 : decode cX0_ascending 3 = .ok (.istore_n 2, 1) := by decide +kernel
theorem dX0_ascending_4 : decode cX0_ascending 4 = .ok (.iconst 0, 1) := by decide +kernel
theorem dX0_ascending_5 : decode cX0_ascending 5 = .ok (.istore_n 3, 1) := by decide +kernel
theorem dX0_ascending_6 : decode cX0_ascending 6 = .ok (.iload_n 3, 1) := by decide +kernel
theorem dX0_ascending_7 : decode cX0_ascending 7 = .ok (.iconst 5, 1) := by decide +kernel
theorem dX0_ascending_8 : decode cX0_ascending 8 = .ok (.if_icmp .ge 30, 3) := by decide +kernel
theorem dX0_ascending_11 : decode cX0_ascending 11 = .ok (.iload_n 0, 1) := by decide +kernel
theorem dX0_ascending_12 : decode cX0_ascending 12 = .ok (.iload_n 3, 1) := by decide +kernel
theorem dX0_ascending_13 : decode cX0_ascending 13 = .ok (.ishr, 1) := by decide +kernel
theorem dX0_ascending_14 : decode cX0_ascending 14 = .ok (.iconst 1, 1) := by decide +kernel
theorem dX0_ascending_15 : decode cX0_ascending 15 = .ok (.iand, 1) := by decide +kernel
theorem dX0_ascending_16 : decode cX0_ascending 16 = .ok (.iconst 1, 1) := by decide +kernel
theorem dX0_ascending_17 : decode cX0_ascending 17 = .ok (.if_icmp .ne 15, 3) := by decide +kernel
theorem dX0_ascending_20 : decode cX0_ascending 20 = .ok (.iload_n 1, 1) := by decide +kernel
theorem dX0_ascending_21 : decode cX0_ascending 21 = .ok (.iload_n 2, 1) := by decide +kernel
theorem dX0_ascending_22 : decode cX0_ascending 22 = .ok (.iload_n 3, 1) := by decide +kernel
theorem dX0_ascending_23 : decode cX0_ascending 23 = .ok (.iconst 1, 1) := by decide +kernel
theorem dX0_ascending_24 : decode cX0_ascending 24 = .ok (.iadd, 1) := by decide +kernel
theorem dX0_ascending_25 : decode cX0_ascending 25 = .ok (.invokestatic 15, 3) := by decide +kernel
theorem dX0_ascending_28 : decode cX0_ascending 28 = .ok (.istore_n 1, 1) := by decide +kernel
theorem dX0_ascending_29 : decode cX0_ascending 29 = .ok (.iinc 2 1, 3) := by decide +kernel
theorem dX0_ascending_32 : decode cX0_ascending 32 = .ok (.iinc 3 1, 3) := by decide +kernel
theorem dX0_ascending_35 : decode cX0_ascending 35 = .ok (.goto (-29), 3) := by decide +kernel
theorem dX0_ascending_38 : decode cX0_ascending 38 = .ok (.iload_n 1, 1) := by decide +kernel
theorem dX0_ascending_39 : decode cX0_ascending 39 = .ok (.ireturn, 1) := by decide +kernel
set_option maxRecDepth 20000 in
theorem ggX0_nextOrder_X0_size : GoodIn wsX0_nextOrder wsX0_size := goodIn_r _ [4, 5, 6, 3, 7] (by decide +kernel) (by decide +kernel)
set_option maxRecDepth 20000 in
theorem gX0_nextOrder_X0_size : GoodIn wsX0_nextOrder (va_wsS RX0 19 yX0_size wsX0_size) := goodIn_app (goodIn_of _ (by decide +kernel)) ggX0_nextOrder_X0_size
set_option maxRecDepth 20000 in
theorem ggX0_nextOrder_X0_at : GoodIn wsX0_nextOrder wsX0_at := goodIn_r _ [7] (by decide +kernel) (by decide +kernel)
set_option maxRecDepth 20000 in
theorem gX0_nextOrder_X0_at : GoodIn wsX0_nextOrder (va_wsS RX0 9 yX0_at wsX0_at) := goodIn_app (goodIn_of _ (by decide +kernel)) ggX0_nextOrder_X0_at
set_option maxRecDepth 20000 in
theorem ggX0_nextOrder_X0_swapped : GoodIn wsX0_nextOrder wsX0_swapped := goodIn_r _ [10, 5, 6, 3, 7, 11, 12, 13] (by decide +kernel) (by decide +kernel)
set_option maxRecDepth 20000 in
theorem gX0_nextOrder_X0_swapped : GoodIn wsX0_nextOrder (va_wsS RX0 26 yX0_swapped wsX0_swapped) := goodIn_app (goodIn_of _ (by decide +kernel)) ggX0_nextOrder_X0_swapped
theorem dX0_nextOrder_0 : decode cX0_nextOrder 0 = .ok (.iload_n 0, 1) := by decide +kernel
theorem dX0_nextOrder_1 : decode cX0_nextOrder 1 = .ok (.invokestatic 19, 3) := by decide +kernel
theorem dX0_nextOrder_4 : decode cX0_nextOrder 4 = .ok (.iconst 1, 1) := by decide +kernel
theorem dX0_nextOrder_5 : decode cX0_nextOrder 5 = .ok (.isub, 1) := by decide +kernel
theorem dX0_nextOrder_6 : decode cX0_nextOrder 6 = .ok (.istore_n 1, 1) := by decide +kernel
theorem dX0_nextOrder_7 : decode cX0_nextOrder 7 = .ok (.iload_n 1, 1) := by decide +kernel
theorem dX0_nextOrder_8 : decode cX0_nextOrder 8 = .ok (.iconst 1, 1) := by decide +kernel
theorem dX0_nextOrder_9 : decode cX0_nextOrder 9 = .ok (.isub, 1) := by decide +kernel
theorem dX0_nextOrder_10 : decode cX0_nextOrder 10 = .ok (.istore_n 2, 1) := by decide +kernel
theorem dX0_nextOrder_11 : decode cX0_nextOrder 11 = .ok (.iload_n 2, 1) := by decide +kernel
theorem dX0_nextOrder_12 : decode cX0_nextOrder 12 = .ok (.ifCond .lt 24, 3) := by decide +kernel
theorem dX0_nextOrder_15 : decode cX0_nextOrder 15 = .ok (.iload_n 0, 1) := by decide +kernel
theorem dX0_nextOrder_16 : decode cX0_nextOrder 16 = .ok (.iload_n 2, 1) := by decide +kernel
theorem dX0_nextOrder_17 : decode cX0_nextOrder 17 = .ok (.invokestatic 9, 3) := by decide +kernel
theorem dX0_nextOrder_20 : decode cX0_nextOrder 20 = .ok (.iload_n 0, 1) := by decide +kernel
theorem dX0_nextOrder_21 : decode cX0_nextOrder 21 = .ok (.iload_n 2, 1) := by decide +kernel
theorem dX0_nextOrder_22 : decode cX0_nextOrder 22 = .ok (.iconst 1, 1) := by decide +kernel
theorem dX0_nextOrder_23 : decode cX0_nextOrder 23 = .ok (.iadd, 1) := by decide +kernel
theorem dX0_nextOrder_24 : decode cX0_nextOrder 24 = .ok (.invokestatic 9, 3) := by decide +kernel
theorem dX0_nextOrder_27 : decode cX0_nextOrder 27 = .ok (.if_icmp .le 9, 3) := by decide +kernel
theorem dX0_nextOrder_30 : decode cX0_nextOrder 30 = .ok (.iinc 2 (-1), 3) := by decide +kernel
theorem dX0_nextOrder_33 : decode cX0_nextOrder 33 = .ok (.goto (-22), 3) := by decide +kernel
theorem dX0_nextOrder_36 : decode cX0_nextOrder 36 = .ok (.iload_n 2, 1) := by decide +kernel
theorem dX0_nextOrder_37 : decode cX0_nextOrder 37 = .ok (.ifCond .ge 5, 3) := by decide +kernel
theorem dX0_nextOrder_40 : decode cX0_nextOrder 40 = .ok (.iconst 0, 1) := by decide +kernel
theorem dX0_nextOrder_41 : decode cX0_nextOrder 41 = .ok (.ireturn, 1) := by decide +kernel
theorem dX0_nextOrder_42 : decode cX0_nextOrder 42 = .ok (.iload_n 1, 1) := by decide +kernel
theorem dX0_nextOrder_43 : decode cX0_nextOrder 43 = .ok (.istore_n 3, 1) := by decide +kernel
theorem dX0_nextOrder_44 : decode cX0_nextOrder 44 = .ok (.iload_n 3, 1) := by decide +kernel
theorem dX0_nextOrder_45 : decode cX0_nextOrder 45 = .ok (.iload_n 2, 1) := by decide +kernel
theorem dX0_nextOrder_46 : decode cX0_nextOrder 46 = .ok (.iconst 1, 1) := by decide +kernel
theorem dX0_nextOrder_47 : decode cX0_nextOrder 47 = .ok (.iadd, 1) := by decide +kernel
theorem dX0_nextOrder_48 : decode cX0_nextOrder 48 = .ok (.if_icmp .le 22, 3) := by decide +kernel
theorem dX0_nextOrder_51 : decode cX0_nextOrder 51 = .ok (.iload_n 0, 1) := by decide +kernel
theorem dX0_nextOrder_52 : decode cX0_nextOrder 52 = .ok (.iload_n 3, 1) := by decide +kernel
theorem dX0_nextOrder_53 : decode cX0_nextOrder 53 = .ok (.invokestatic 9, 3) := by decide +kernel
theorem dX0_nextOrder_56 : decode cX0_nextOrder 56 = .ok (.iload_n 0, 1) := by decide +kernel
theorem dX0_nextOrder_57 : decode cX0_nextOrder 57 = .ok (.iload_n 2, 1) := by decide +kernel
theorem dX0_nextOrder_58 : decode cX0_nextOrder 58 = .ok (.invokestatic 9, 3) := by decide +kernel
theorem dX0_nextOrder_61 : decode cX0_nextOrder 61 = .ok (.if_icmp .ge 9, 3) := by decide +kernel
theorem dX0_nextOrder_64 : decode cX0_nextOrder 64 = .ok (.iinc 3 (-1), 3) := by decide +kernel
theorem dX0_nextOrder_67 : decode cX0_nextOrder 67 = .ok (.goto (-23), 3) := by decide +kernel
theorem dX0_nextOrder_70 : decode cX0_nextOrder 70 = .ok (.iload_n 0, 1) := by decide +kernel
theorem dX0_nextOrder_71 : decode cX0_nextOrder 71 = .ok (.iload_n 2, 1) := by decide +kernel
theorem dX0_nextOrder_72 : decode cX0_nextOrder 72 = .ok (.iload_n 3, 1) := by decide +kernel
theorem dX0_nextOrder_73 : decode cX0_nextOrder 73 = .ok (.invokestatic 26, 3) := by decide +kernel
theorem dX0_nextOrder_76 : decode cX0_nextOrder 76 = .ok (.istore 4, 2) := by decide +kernel
theorem dX0_nextOrder_78 : decode cX0_nextOrder 78 = .ok (.iload_n 1, 1) := by decide +kernel
theorem dX0_nextOrder_79 : decode cX0_nextOrder 79 = .ok (.istore 5, 2) := by decide +kernel
theorem dX0_nextOrder_81 : decode cX0_nextOrder 81 = .ok (.iload_n 2, 1) := by decide +kernel
theorem dX0_nextOrder_82 : decode cX0_nextOrder 82 = .ok (.iconst 1, 1) := by decide +kernel
theorem dX0_nextOrder_83 : decode cX0_nextOrder 83 = .ok (.iadd, 1) := by decide +kernel
theorem dX0_nextOrder_84 : decode cX0_nextOrder 84 = .ok (.istore 6, 2) := by decide +kernel
theorem dX0_nextOrder_86 : decode cX0_nextOrder 86 = .ok (.iload 6, 2) := by decide +kernel
theorem dX0_nextOrder_88 : decode cX0_nextOrder 88 = .ok (.iload 5, 2) := by decide +kernel
theorem dX0_nextOrder_90 : decode cX0_nextOrder 90 = .ok (.if_icmp .ge 23, 3) := by decide +kernel
theorem dX0_nextOrder_93 : decode cX0_nextOrder 93 = .ok (.iload 4, 2) := by decide +kernel
theorem dX0_nextOrder_95 : decode cX0_nextOrder 95 = .ok (.iload 6, 2) := by decide +kernel
theorem dX0_nextOrder_97 : decode cX0_nextOrder 97 = .ok (.iload 5, 2) := by decide +kernel
theorem dX0_nextOrder_99 : decode cX0_nextOrder 99 = .ok (.invokestatic 26, 3) := by decide +kernel
theorem dX0_nextOrder_102 : decode cX0_nextOrder 102 = .ok (.istore 4, 2) := by decide +kernel
theorem dX0_nextOrder_104 : decode cX0_nextOrder 104 = .ok (.iinc 5 (-1), 3) := by decide +kernel
theorem dX0_nextOrder_107 : decode cX0_nextOrder 107 = .ok (.iinc 6 1, 3) := by decide +kernel
theorem dX0_nextOrder_110 : decode cX0_nextOrder 110 = .ok (.goto (-24), 3) := by decide +kernel
theorem dX0_nextOrder_113 : decode cX0_nextOrder 113 = .ok (.iload 4, 2) := by decide +kernel
theorem dX0_nextOrder_115 : decode cX0_nextOrder 115 = .ok (.ireturn, 1) := by decide +kernel
theorem dX1_init_0 : decode cX1_init 0 = .ok (.aload_n 0, 1) := by decide +kernel
theorem dX1_init_1 : decode cX1_init 1 = .ok (.invokespecial 1, 3) := by decide +kernel
theorem dX1_init_4 : decode cX1_init 4 = .ok (.aload_n 0, 1) := by decide +kernel
theorem dX1_init_5 : decode cX1_init 5 = .ok (.iconst 0, 1) := by decide +kernel
theorem dX1_init_6 : decode cX1_init 6 = .ok (.putfield 7, 3) := by decide +kernel
theorem dX1_init_9 : decode cX1_init 9 = .ok (.aload_n 0, 1) := by decide +kernel
theorem dX1_init_10 : decode cX1_init 10 = .ok (.iconst 1, 1) := by decide +kernel
theorem dX1_init_11 : decode cX1_init 11 = .ok (.putfield 13, 3) := by decide +kernel
theorem dX1_init_14 : decode cX1_init 14 = .ok (.aload_n 0, 1) := by decide +kernel
theorem dX1_init_15 : decode cX1_init 15 = .ok (.bipush 9, 2) := by decide +kernel
theorem dX1_init_17 : decode cX1_init 17 = .ok (.putfield 16, 3) := by decide +kernel
theorem dX1_init_20 : decode cX1_init 20 = .ok (.aload_n 0, 1) := by decide +kernel
theorem dX1_init_21 : decode cX1_init 21 = .ok (.iconst 0, 1) := by decide +kernel
theorem dX1_init_22 : decode cX1_init 22 = .ok (.putfield 19, 3) := by decide +kernel
theorem dX1_init_25 : decode cX1_init 25 = .ok (.aload_n 0, 1) := by decide +kernel
theorem dX1_init_26 : decode cX1_init 26 = .ok (.iconst 0, 1) := by decide +kernel
theorem dX1_init_27 : decode cX1_init 27 = .ok (.putfield 22, 3) := by decide +kernel
theorem dX1_init_30 : decode cX1_init 30 = .ok (.return_, 1) := by decide +kernel
set_option maxRecDepth 20000 in
theorem ggX1_read_X2_figure : GoodIn wsX1_read wsX2_figure := goodIn_r _ [10, 11, 12, 13, 9, 14, 15, 39, 40] (by decide +kernel) (by decide +kernel)
set_option maxRecDepth 20000 in
theorem gX1_read_X2_figure : GoodIn wsX1_read (wsV RX1 25 RX2 yX2_figure wsX2_figure) := goodIn_app (goodIn_of _ (by decide +kernel)) ggX1_read_X2_figure
set_option maxRecDepth 20000 in
theorem ggX1_read_X2_parts : GoodIn wsX1_read wsX2_parts := goodIn_r _ [19, 20, 39, 40] (by decide +kernel) (by decide +kernel)
set_option maxRecDepth 20000 in
theorem gX1_read_X2_parts : GoodIn wsX1_read (wsV RX1 31 RX2 yX2_parts wsX2_parts) := goodIn_app (goodIn_of _ (by decide +kernel)) ggX1_read_X2_parts
set_option maxRecDepth 20000 in
theorem ggX1_read_X2_nerve : GoodIn wsX1_read wsX2_nerve := goodIn_r _ [24, 25, 7, 8, 9, 10, 11, 12, 13, 14, 15, 39, 40] (by decide +kernel) (by decide +kernel)
set_option maxRecDepth 20000 in
theorem gX1_read_X2_nerve : GoodIn wsX1_read (wsV RX1 35 RX2 yX2_nerve wsX2_nerve) := goodIn_app (goodIn_of _ (by decide +kernel)) ggX1_read_X2_nerve
set_option maxRecDepth 20000 in
theorem ggX1_read_X0_with : GoodIn wsX1_read wsX0_with := goodIn_r _ [29] (by decide +kernel) (by decide +kernel)
set_option maxRecDepth 20000 in
theorem gX1_read_X0_with : GoodIn wsX1_read (va_wsS RX1 38 yX0_with wsX0_with) := goodIn_app (goodIn_of _ (by decide +kernel)) ggX1_read_X0_with
set_option maxRecDepth 20000 in
theorem ggX1_read_X2_kind : GoodIn wsX1_read wsX2_kind := goodIn_r _ [33, 25, 7, 8, 9, 10, 11, 12, 13, 14, 15, 39, 40] (by decide +kernel) (by decide +kernel)
set_option maxRecDepth 20000 in
theorem gX1_read_X2_kind : GoodIn wsX1_read (wsV RX1 44 RX2 yX2_kind wsX2_kind) := goodIn_app (goodIn_of _ (by decide +kernel)) ggX1_read_X2_kind
theorem dX1_read_0 : decode cX1_read 0 = .ok (.aload_n 0, 1) := by decide +kernel
theorem dX1_read_1 : decode cX1_read 1 = .ok (.aload_n 1, 1) := by decide +kernel
theorem dX1_read_2 : decode cX1_read 2 = .ok (.iconst 1, 1) := by decide +kernel
theorem dX1_read_3 : decode cX1_read 3 = .ok (.invokevirtual 25, 3) := by decide +kernel
theorem dX1_read_6 : decode cX1_read 6 = .ok (.putfield 13, 3) := by decide +kernel
theorem dX1_read_9 : decode cX1_read 9 = .ok (.aload_n 0, 1) := by decide +kernel
theorem dX1_read_10 : decode cX1_read 10 = .ok (.aload_n 1, 1) := by decide +kernel
theorem dX1_read_11 : decode cX1_read 11 = .ok (.iconst 2, 1) := by decide +kernel
theorem dX1_read_12 : decode cX1_read 12 = .ok (.invokevirtual 25, 3) := by decide +kernel
theorem dX1_read_15 : decode cX1_read 15 = .ok (.putfield 16, 3) := by decide +kernel
theorem dX1_read_18 : decode cX1_read 18 = .ok (.aload_n 0, 1) := by decide +kernel
theorem dX1_read_19 : decode cX1_read 19 = .ok (.aload_n 1, 1) := by decide +kernel
theorem dX1_read_20 : decode cX1_read 20 = .ok (.invokevirtual 31, 3) := by decide +kernel
theorem dX1_read_23 : decode cX1_read 23 = .ok (.putfield 7, 3) := by decide +kernel
theorem dX1_read_26 : decode cX1_read 26 = .ok (.iconst 0, 1) := by decide +kernel
theorem dX1_read_27 : decode cX1_read 27 = .ok (.istore_n 2, 1) := by decide +kernel
theorem dX1_read_28 : decode cX1_read 28 = .ok (.iload_n 2, 1) := by decide +kernel
theorem dX1_read_29 : decode cX1_read 29 = .ok (.aload_n 0, 1) := by decide +kernel
theorem dX1_read_30 : decode cX1_read 30 = .ok (.getfield 7, 3) := by decide +kernel
theorem dX1_read_33 : decode cX1_read 33 = .ok (.if_icmp .ge 43, 3) := by decide +kernel
theorem dX1_read_36 : decode cX1_read 36 = .ok (.aload_n 0, 1) := by decide +kernel
theorem dX1_read_37 : decode cX1_read 37 = .ok (.aload_n 0, 1) := by decide +kernel
theorem dX1_read_38 : decode cX1_read 38 = .ok (.getfield 19, 3) := by decide +kernel
theorem dX1_read_41 : decode cX1_read 41 = .ok (.iload_n 2, 1) := by decide +kernel
theorem dX1_read_42 : decode cX1_read 42 = .ok (.aload_n 1, 1) := by decide +kernel
theorem dX1_read_43 : decode cX1_read 43 = .ok (.iload_n 2, 1) := by decide +kernel
theorem dX1_read_44 : decode cX1_read 44 = .ok (.invokevirtual 35, 3) := by decide +kernel
theorem dX1_read_47 : decode cX1_read 47 = .ok (.invokestatic 38, 3) := by decide +kernel
theorem dX1_read_50 : decode cX1_read 50 = .ok (.putfield 19, 3) := by decide +kernel
theorem dX1_read_53 : decode cX1_read 53 = .ok (.aload_n 0, 1) := by decide +kernel
theorem dX1_read_54 : decode cX1_read 54 = .ok (.aload_n 0, 1) := by decide +kernel
theorem dX1_read_55 : decode cX1_read 55 = .ok (.getfield 22, 3) := by decide +kernel
theorem dX1_read_58 : decode cX1_read 58 = .ok (.iload_n 2, 1) := by decide +kernel
theorem dX1_read_59 : decode cX1_read 59 = .ok (.aload_n 1, 1) := by decide +kernel
theorem dX1_read_60 : decode cX1_read 60 = .ok (.iload_n 2, 1) := by decide +kernel
theorem dX1_read_61 : decode cX1_read 61 = .ok (.invokevirtual 44, 3) := by decide +kernel
theorem dX1_read_64 : decode cX1_read 64 = .ok (.invokestatic 38, 3) := by decide +kernel
theorem dX1_read_67 : decode cX1_read 67 = .ok (.putfield 22, 3) := by decide +kernel
theorem dX1_read_70 : decode cX1_read 70 = .ok (.iinc 2 1, 3) := by decide +kernel
theorem dX1_read_73 : decode cX1_read 73 = .ok (.goto (-45), 3) := by decide +kernel
theorem dX1_read_76 : decode cX1_read 76 = .ok (.return_, 1) := by decide +kernel
theorem dX1_walkers_0 : decode cX1_walkers 0 = .ok (.aload_n 0, 1) := by decide +kernel
theorem dX1_walkers_1 : decode cX1_walkers 1 = .ok (.getfield 7, 3) := by decide +kernel
theorem dX1_walkers_4 : decode cX1_walkers 4 = .ok (.ireturn, 1) := by decide +kernel
theorem dX1_light_0 : decode cX1_light 0 = .ok (.aload_n 0, 1) := by decide +kernel
theorem dX1_light_1 : decode cX1_light 1 = .ok (.getfield 13, 3) := by decide +kernel
theorem dX1_light_4 : decode cX1_light 4 = .ok (.ireturn, 1) := by decide +kernel
theorem dX1_water_0 : decode cX1_water 0 = .ok (.aload_n 0, 1) := by decide +kernel
theorem dX1_water_1 : decode cX1_water 1 = .ok (.getfield 16, 3) := by decide +kernel
theorem dX1_water_4 : decode cX1_water 4 = .ok (.ireturn, 1) := by decide +kernel
set_option maxRecDepth 20000 in
theorem ggX1_has_X4_within : GoodIn wsX1_has wsX4_within := goodIn_r _ [4] (by decide +kernel) (by decide +kernel)
set_option maxRecDepth 20000 in
theorem gX1_has_X4_within_n47 : GoodIn wsX1_has (wsX4_within) := ggX1_has_X4_within
theorem dX1_has_0 : decode cX1_has 0 = .ok (.iload_n 1, 1) := by decide +kernel
theorem dX1_has_1 : decode cX1_has 1 = .ok (.iconst 0, 1) := by decide +kernel
theorem dX1_has_2 : decode cX1_has 2 = .ok (.aload_n 0, 1) := by decide +kernel
theorem dX1_has_3 : decode cX1_has 3 = .ok (.getfield 7, 3) := by decide +kernel
theorem dX1_has_6 : decode cX1_has 6 = .ok (.iconst 1, 1) := by decide +kernel
theorem dX1_has_7 : decode cX1_has 7 = .ok (.isub, 1) := by decide +kernel
theorem dX1_has_8 : decode cX1_has 8 = .ok (.invokestatic 47, 3) := by decide +kernel
theorem dX1_has_11 : decode cX1_has 11 = .ok (.ireturn, 1) := by decide +kernel
theorem dX1_everybody_0 : decode cX1_everybody 0 = .ok (.iconst 1, 1) := by decide +kernel
theorem dX1_everybody_1 : decode cX1_everybody 1 = .ok (.aload_n 0, 1) := by decide +kernel
theorem dX1_everybody_2 : decode cX1_everybody 2 = .ok (.getfield 7, 3) := by decide +kernel
theorem dX1_everybody_5 : decode cX1_everybody 5 = .ok (.ishl, 1) := by decide +kernel
theorem dX1_everybody_6 : decode cX1_everybody 6 = .ok (.iconst 1, 1) := by decide +kernel
theorem dX1_everybody_7 : decode cX1_everybody 7 = .ok (.isub, 1) := by decide +kernel
theorem dX1_everybody_8 : decode cX1_everybody 8 = .ok (.ireturn, 1) := by decide +kernel
set_option maxRecDepth 20000 in
theorem ggX1_nerve_X0_at : GoodIn wsX1_nerve wsX0_at := goodIn_r _ [5] (by decide +kernel) (by decide +kernel)
set_option maxRecDepth 20000 in
theorem gX1_nerve_X0_at : GoodIn wsX1_nerve (va_wsS RX1 53 yX0_at wsX0_at) := goodIn_app (goodIn_of _ (by decide +kernel)) ggX1_nerve_X0_at
theorem dX1_nerve_0 : decode cX1_nerve 0 = .ok (.aload_n 0, 1) := by decide +kernel
theorem dX1_nerve_1 : decode cX1_nerve 1 = .ok (.getfield 19, 3) := by decide +kernel
theorem dX1_nerve_4 : decode cX1_nerve 4 = .ok (.iload_n 1, 1) := by decide +kernel
theorem dX1_nerve_5 : decode cX1_nerve 5 = .ok (.invokestatic 53, 3) := by decide +kernel
theorem dX1_nerve_8 : decode cX1_nerve 8 = .ok (.ireturn, 1) := by decide +kernel
set_option maxRecDepth 20000 in
theorem ggX1_kind_X0_at : GoodIn wsX1_kind wsX0_at := goodIn_r _ [5] (by decide +kernel) (by decide +kernel)
set_option maxRecDepth 20000 in
theorem gX1_kind_X0_at : GoodIn wsX1_kind (va_wsS RX1 53 yX0_at wsX0_at) := goodIn_app (goodIn_of _ (by decide +kernel)) ggX1_kind_X0_at
theorem dX1_kind_0 : decode cX1_kind 0 = .ok (.aload_n 0, 1) := by decide +kernel
theorem dX1_kind_1 : decode cX1_kind 1 = .ok (.getfield 22, 3) := by decide +kernel
theorem dX1_kind_4 : decode cX1_kind 4 = .ok (.iload_n 1, 1) := by decide +kernel
theorem dX1_kind_5 : decode cX1_kind 5 = .ok (.invokestatic 53, 3) := by decide +kernel
theorem dX1_kind_8 : decode cX1_kind 8 = .ok (.ireturn, 1) := by decide +kernel
theorem dX2_init_0 : decode cX2_init 0 = .ok (.aload_n 0, 1) := by decide +kernel
theorem dX2_init_1 : decode cX2_init 1 = .ok (.invokespecial 3, 3) := by decide +kernel
theorem dX2_init_4 : decode cX2_init 4 = .ok (.aload_n 0, 1) := by decide +kernel
theorem dX2_init_5 : decode cX2_init 5 = .ok (.bipush 32, 2) := by decide +kernel
theorem dX2_init_7 : decode cX2_init 7 = .ok (.newarray .int, 2) := by decide +kernel
theorem dX2_init_9 : decode cX2_init 9 = .ok (.putfield 9, 3) := by decide +kernel
theorem dX2_init_12 : decode cX2_init 12 = .ok (.aload_n 0, 1) := by decide +kernel
theorem dX2_init_13 : decode cX2_init 13 = .ok (.iconst 0, 1) := by decide +kernel
theorem dX2_init_14 : decode cX2_init 14 = .ok (.putfield 15, 3) := by decide +kernel
theorem dX2_init_17 : decode cX2_init 17 = .ok (.return_, 1) := by decide +kernel
theorem dX2_length_0 : decode cX2_length 0 = .ok (.aload_n 0, 1) := by decide +kernel
theorem dX2_length_1 : decode cX2_length 1 = .ok (.getfield 15, 3) := by decide +kernel
theorem dX2_length_4 : decode cX2_length 4 = .ok (.ireturn, 1) := by decide +kernel
theorem dX2_append_0 : decode cX2_append 0 = .ok (.aload_n 0, 1) := by decide +kernel
theorem dX2_append_1 : decode cX2_append 1 = .ok (.getfield 15, 3) := by decide +kernel
theorem dX2_append_4 : decode cX2_append 4 = .ok (.ifCond .lt 15, 3) := by decide +kernel
theorem dX2_append_7 : decode cX2_append 7 = .ok (.aload_n 0, 1) := by decide +kernel
theorem dX2_append_8 : decode cX2_append 8 = .ok (.getfield 15, 3) := by decide +kernel
theorem dX2_append_11 : decode cX2_append 11 = .ok (.aload_n 0, 1) := by decide +kernel
theorem dX2_append_12 : decode cX2_append 12 = .ok (.getfield 9, 3) := by decide +kernel
theorem dX2_append_15 : decode cX2_append 15 = .ok (.arraylength, 1) := by decide +kernel
theorem dX2_append_16 : decode cX2_append 16 = .ok (.if_icmp .lt 5, 3) := by decide +kernel
theorem dX2_append_19 : decode cX2_append 19 = .ok (.iconst 0, 1) := by decide +kernel
theorem dX2_append_20 : decode cX2_append 20 = .ok (.ireturn, 1) := by decide +kernel
theorem dX2_append_21 : decode cX2_append 21 = .ok (.aload_n 0, 1) := by decide +kernel
theorem dX2_append_22 : decode cX2_append 22 = .ok (.getfield 9, 3) := by decide +kernel
theorem dX2_append_25 : decode cX2_append 25 = .ok (.aload_n 0, 1) := by decide +kernel
theorem dX2_append_26 : decode cX2_append 26 = .ok (.getfield 15, 3) := by decide +kernel
theorem dX2_append_29 : decode cX2_append 29 = .ok (.iload_n 1, 1) := by decide +kernel
theorem dX2_append_30 : decode cX2_append 30 = .ok (.iastore, 1) := by decide +kernel
theorem dX2_append_31 : decode cX2_append 31 = .ok (.aload_n 0, 1) := by decide +kernel
theorem dX2_append_32 : decode cX2_append 32 = .ok (.dup, 1) := by decide +kernel
theorem dX2_append_33 : decode cX2_append 33 = .ok (.getfield 15, 3) := by decide +kernel
theorem dX2_append_36 : decode cX2_append 36 = .ok (.iconst 1, 1) := by decide +kernel
theorem dX2_append_37 : decode cX2_append 37 = .ok (.iadd, 1) := by decide +kernel
theorem dX2_append_38 : decode cX2_append 38 = .ok (.putfield 15, 3) := by decide +kernel
theorem dX2_append_41 : decode cX2_append 41 = .ok (.iconst 1, 1) := by decide +kernel
theorem dX2_append_42 : decode cX2_append 42 = .ok (.ireturn, 1) := by decide +kernel
theorem dX2_clear_0 : decode cX2_clear 0 = .ok (.aload_n 0, 1) := by decide +kernel
theorem dX2_clear_1 : decode cX2_clear 1 = .ok (.iconst 0, 1) := by decide +kernel
theorem dX2_clear_2 : decode cX2_clear 2 = .ok (.putfield 15, 3) := by decide +kernel
theorem dX2_clear_5 : decode cX2_clear 5 = .ok (.return_, 1) := by decide +kernel
theorem dX2_parts_0 : decode cX2_parts 0 = .ok (.aload_n 0, 1) := by decide +kernel
theorem dX2_parts_1 : decode cX2_parts 1 = .ok (.getfield 15, 3) := by decide +kernel
theorem dX2_parts_4 : decode cX2_parts 4 = .ok (.iconst 3, 1) := by decide +kernel
theorem dX2_parts_5 : decode cX2_parts 5 = .ok (.isub, 1) := by decide +kernel
theorem dX2_parts_6 : decode cX2_parts 6 = .ok (.iconst 3, 1) := by decide +kernel
theorem dX2_parts_7 : decode cX2_parts 7 = .ok (.idiv, 1) := by decide +kernel
theorem dX2_parts_8 : decode cX2_parts 8 = .ok (.ireturn, 1) := by decide +kernel
set_option maxRecDepth 20000 in
theorem ggX2_figure_X2_byteAt : GoodIn wsX2_figure wsX2_byteAt := goodIn_r _ [5, 6, 7, 8] (by decide +kernel) (by decide +kernel)
set_option maxRecDepth 20000 in
theorem gX2_figure_X2_byteAt : GoodIn wsX2_figure (wsV RX2 19 RX2 yX2_byteAt wsX2_byteAt) := goodIn_app (goodIn_of _ (by decide +kernel)) ggX2_figure_X2_byteAt
theorem dX2_figure_0 : decode cX2_figure 0 = .ok (.aload_n 0, 1) := by decide +kernel
theorem dX2_figure_1 : decode cX2_figure 1 = .ok (.iload_n 1, 1) := by decide +kernel
theorem dX2_figure_2 : decode cX2_figure 2 = .ok (.invokevirtual 19, 3) := by decide +kernel
theorem dX2_figure_5 : decode cX2_figure 5 = .ok (.bipush 48, 2) := by decide +kernel
theorem dX2_figure_7 : decode cX2_figure 7 = .ok (.isub, 1) := by decide +kernel
theorem dX2_figure_8 : decode cX2_figure 8 = .ok (.ireturn, 1) := by decide +kernel
set_option maxRecDepth 20000 in
theorem ggX2_nerve_X2_figure : GoodIn wsX2_nerve wsX2_figure := goodIn_r _ [5, 6, 7, 8, 4, 9, 10, 11, 12] (by decide +kernel) (by decide +kernel)
set_option maxRecDepth 20000 in
theorem gX2_nerve_X2_figure : GoodIn wsX2_nerve (wsV RX2 23 RX2 yX2_figure wsX2_figure) := goodIn_app (goodIn_of _ (by decide +kernel)) ggX2_nerve_X2_figure
theorem dX2_nerve_0 : decode cX2_nerve 0 = .ok (.aload_n 0, 1) := by decide +kernel
theorem dX2_nerve_1 : decode cX2_nerve 1 = .ok (.iconst 3, 1) := by decide +kernel
theorem dX2_nerve_2 : decode cX2_nerve 2 = .ok (.iload_n 1, 1) := by decide +kernel
theorem dX2_nerve_3 : decode cX2_nerve 3 = .ok (.iconst 3, 1) := by decide +kernel
theorem dX2_nerve_4 : decode cX2_nerve 4 = .ok (.imul, 1) := by decide +kernel
theorem dX2_nerve_5 : decode cX2_nerve 5 = .ok (.iadd, 1) := by decide +kernel
theorem dX2_nerve_6 : decode cX2_nerve 6 = .ok (.iconst 1, 1) := by decide +kernel
theorem dX2_nerve_7 : decode cX2_nerve 7 = .ok (.iadd, 1) := by decide +kernel
theorem dX2_nerve_8 : decode cX2_nerve 8 = .ok (.invokevirtual 23, 3) := by decide +kernel
theorem dX2_nerve_11 : decode cX2_nerve 11 = .ok (.ireturn, 1) := by decide +kernel
set_option maxRecDepth 20000 in
theorem ggX2_kind_X2_figure : GoodIn wsX2_kind wsX2_figure := goodIn_r _ [5, 6, 7, 8, 4, 9, 10, 11, 12] (by decide +kernel) (by decide +kernel)
set_option maxRecDepth 20000 in
theorem gX2_kind_X2_figure : GoodIn wsX2_kind (wsV RX2 23 RX2 yX2_figure wsX2_figure) := goodIn_app (goodIn_of _ (by decide +kernel)) ggX2_kind_X2_figure
theorem dX2_kind_0 : decode cX2_kind 0 = .ok (.aload_n 0, 1) := by decide +kernel
theorem dX2_kind_1 : decode cX2_kind 1 = .ok (.iconst 3, 1) := by decide +kernel
theorem dX2_kind_2 : decode cX2_kind 2 = .ok (.iload_n 1, 1) := by decide +kernel
theorem dX2_kind_3 : decode cX2_kind 3 = .ok (.iconst 3, 1) := by decide +kernel
theorem dX2_kind_4 : decode cX2_kind 4 = .ok (.imul, 1) := by decide +kernel
theorem dX2_kind_5 : decode cX2_kind 5 = .ok (.iadd, 1) := by decide +kernel
theorem dX2_kind_6 : decode cX2_kind 6 = .ok (.iconst 2, 1) := by decide +kernel
theorem dX2_kind_7 : decode cX2_kind 7 = .ok (.iadd, 1) := by decide +kernel
theorem dX2_kind_8 : decode cX2_kind 8 = .ok (.invokevirtual 23, 3) := by decide +kernel
theorem dX2_kind_11 : decode cX2_kind 11 = .ok (.ireturn, 1) := by decide +kernel
set_option maxRecDepth 20000 in
theorem ggX2_firstFault_X2_fits : GoodIn wsX2_firstFault wsX2_fits := goodIn_r _ [6, 7, 8, 9, 5, 10, 11, 12, 13, 14, 15, 16, 17, 18, 19, 20, 21, 22, 23, 24] (by decide +kernel) (by decide +kernel)
set_option maxRecDepth 20000 in
theorem gX2_firstFault_X2_fits : GoodIn wsX2_firstFault (wsV RX2 26 RX2 yX2_fits wsX2_fits) := goodIn_app (goodIn_of _ (by decide +kernel)) ggX2_firstFault_X2_fits
theorem dX2_firstFault_0 : decode cX2_firstFault 0 = .ok (.iconst 0, 1) := by decide +kernel
theorem dX2_firstFault_1 : decode cX2_firstFault 1 = .ok (.istore_n 1, 1) := by decide +kernel
theorem dX2_firstFault_2 : decode cX2_firstFault 2 = .ok (.iload_n 1, 1) := by decide +kernel
theorem dX2_firstFault_3 : decode cX2_firstFault 3 = .ok (.aload_n 0, 1) := by decide +kernel
theorem dX2_firstFault_4 : decode cX2_firstFault 4 = .ok (.getfield 15, 3) := by decide +kernel
theorem dX2_firstFault_7 : decode cX2_firstFault 7 = .ok (.if_icmp .ge 19, 3) := by decide +kernel
theorem dX2_firstFault_10 : decode cX2_firstFault 10 = .ok (.aload_n 0, 1) := by decide +kernel
theorem dX2_firstFault_11 : decode cX2_firstFault 11 = .ok (.iload_n 1, 1) := by decide +kernel
theorem dX2_firstFault_12 : decode cX2_firstFault 12 = .ok (.invokevirtual 26, 3) := by decide +kernel
theorem dX2_firstFault_15 : decode cX2_firstFault 15 = .ok (.ifCond .ne 5, 3) := by decide +kernel
theorem dX2_firstFault_18 : decode cX2_firstFault 18 = .ok (.iload_n 1, 1) := by decide +kernel
theorem dX2_firstFault_19 : decode cX2_firstFault 19 = .ok (.ireturn, 1) := by decide +kernel
theorem dX2_firstFault_20 : decode cX2_firstFault 20 = .ok (.iinc 1 1, 3) := by decide +kernel
theorem dX2_firstFault_23 : decode cX2_firstFault 23 = .ok (.goto (-21), 3) := by decide +kernel
theorem dX2_firstFault_26 : decode cX2_firstFault 26 = .ok (.aload_n 0, 1) := by decide +kernel
theorem dX2_firstFault_27 : decode cX2_firstFault 27 = .ok (.getfield 15, 3) := by decide +kernel
theorem dX2_firstFault_30 : decode cX2_firstFault 30 = .ok (.iconst 3, 1) := by decide +kernel
theorem dX2_firstFault_31 : decode cX2_firstFault 31 = .ok (.if_icmp .lt 18, 3) := by decide +kernel
theorem dX2_firstFault_34 : decode cX2_firstFault 34 = .ok (.aload_n 0, 1) := by decide +kernel
theorem dX2_firstFault_35 : decode cX2_firstFault 35 = .ok (.getfield 15, 3) := by decide +kernel
theorem dX2_firstFault_38 : decode cX2_firstFault 38 = .ok (.iconst 3, 1) := by decide +kernel
theorem dX2_firstFault_39 : decode cX2_firstFault 39 = .ok (.isub, 1) := by decide +kernel
theorem dX2_firstFault_40 : decode cX2_firstFault 40 = .ok (.iconst 3, 1) := by decide +kernel
theorem dX2_firstFault_41 : decode cX2_firstFault 41 = .ok (.irem, 1) := by decide +kernel
theorem dX2_firstFault_42 : decode cX2_firstFault 42 = .ok (.ifCond .ne 7, 3) := by decide +kernel
theorem dX2_firstFault_45 : decode cX2_firstFault 45 = .ok (.iconst 1, 1) := by decide +kernel
theorem dX2_firstFault_46 : decode cX2_firstFault 46 = .ok (.goto 4, 3) := by decide +kernel
theorem dX2_firstFault_49 : decode cX2_firstFault 49 = .ok (.iconst 0, 1) := by decide +kernel
theorem dX2_firstFault_50 : decode cX2_firstFault 50 = .ok (.istore_n 1, 1) := by decide +kernel
theorem dX2_firstFault_51 : decode cX2_firstFault 51 = .ok (.iload_n 1, 1) := by decide +kernel
theorem dX2_firstFault_52 : decode cX2_firstFault 52 = .ok (.ifCond .eq 8, 3) := by decide +kernel
theorem dX2_firstFault_55 : decode cX2_firstFault 55 = .ok (.bipush (-9), 2) := by decide +kernel
theorem dX2_firstFault_57 : decode cX2_firstFault 57 = .ok (.goto 7, 3) := by decide +kernel
theorem dX2_firstFault_60 : decode cX2_firstFault 60 = .ok (.aload_n 0, 1) := by decide +kernel
theorem dX2_firstFault_61 : decode cX2_firstFault 61 = .ok (.getfield 15, 3) := by decide +kernel
theorem dX2_firstFault_64 : decode cX2_firstFault 64 = .ok (.ireturn, 1) := by decide +kernel
set_option maxRecDepth 20000 in
theorem ggX2_fits_X2_byteAt : GoodIn wsX2_fits wsX2_byteAt := goodIn_r _ [5, 6, 18, 19] (by decide +kernel) (by decide +kernel)
set_option maxRecDepth 20000 in
theorem gX2_fits_X2_byteAt : GoodIn wsX2_fits (wsV RX2 19 RX2 yX2_byteAt wsX2_byteAt) := goodIn_app (goodIn_of _ (by decide +kernel)) ggX2_fits_X2_byteAt
set_option maxRecDepth 20000 in
theorem ggX2_fits_X2_figure : GoodIn wsX2_fits wsX2_figure := goodIn_r _ [10, 1, 2, 3, 4, 5, 6, 18, 19] (by decide +kernel) (by decide +kernel)
set_option maxRecDepth 20000 in
theorem gX2_fits_X2_figure : GoodIn wsX2_fits (wsV RX2 23 RX2 yX2_figure wsX2_figure) := goodIn_app (goodIn_of _ (by decide +kernel)) ggX2_fits_X2_figure
set_option maxRecDepth 20000 in
theorem ggX2_fits_X4_within : GoodIn wsX2_fits wsX4_within := goodIn_r _ [13] (by decide +kernel) (by decide +kernel)
set_option maxRecDepth 20000 in
theorem gX2_fits_X4_within_n30 : GoodIn wsX2_fits (wsX4_within) := ggX2_fits_X4_within
set_option maxRecDepth 20000 in
theorem ggX2_fits_X2_fitsPart : GoodIn wsX2_fits wsX2_fitsPart := goodIn_r _ [17, 1, 2, 3, 4, 5, 6, 7, 8, 9, 10, 11, 12, 13, 18, 19] (by decide +kernel) (by decide +kernel)
set_option maxRecDepth 20000 in
theorem gX2_fits_X2_fitsPart : GoodIn wsX2_fits (wsV RX2 34 RX2 yX2_fitsPart wsX2_fitsPart) := goodIn_app (goodIn_of _ (by decide +kernel)) ggX2_fits_X2_fitsPart
theorem dX2_fits_0 : decode cX2_fits 0 = .ok (.iload_n 1, 1) := by decide +kernel
theorem dX2_fits_1 : decode cX2_fits 1 = .ok (.tableswitch 67 0 2 #[27, 43, 55], 27) := by decide +kernel
theorem dX2_fits_28 : decode cX2_fits 28 = .ok (.aload_n 0, 1) := by decide +kernel
theorem dX2_fits_29 : decode cX2_fits 29 = .ok (.iload_n 1, 1) := by decide +kernel
theorem dX2_fits_30 : decode cX2_fits 30 = .ok (.invokevirtual 19, 3) := by decide +kernel
theorem dX2_fits_33 : decode cX2_fits 33 = .ok (.bipush 71, 2) := by decide +kernel
theorem dX2_fits_35 : decode cX2_fits 35 = .ok (.if_icmp .ne 7, 3) := by decide +kernel
theorem dX2_fits_38 : decode cX2_fits 38 = .ok (.iconst 1, 1) := by decide +kernel
theorem dX2_fits_39 : decode cX2_fits 39 = .ok (.goto 4, 3) := by decide +kernel
theorem dX2_fits_42 : decode cX2_fits 42 = .ok (.iconst 0, 1) := by decide +kernel
theorem dX2_fits_43 : decode cX2_fits 43 = .ok (.ireturn, 1) := by decide +kernel
theorem dX2_fits_44 : decode cX2_fits 44 = .ok (.aload_n 0, 1) := by decide +kernel
theorem dX2_fits_45 : decode cX2_fits 45 = .ok (.iload_n 1, 1) := by decide +kernel
theorem dX2_fits_46 : decode cX2_fits 46 = .ok (.invokevirtual 23, 3) := by decide +kernel
theorem dX2_fits_49 : decode cX2_fits 49 = .ok (.iconst 1, 1) := by decide +kernel
theorem dX2_fits_50 : decode cX2_fits 50 = .ok (.bipush 9, 2) := by decide +kernel
theorem dX2_fits_52 : decode cX2_fits 52 = .ok (.invokestatic 30, 3) := by decide +kernel
theorem dX2_fits_55 : decode cX2_fits 55 = .ok (.ireturn, 1) := by decide +kernel
theorem dX2_fits_56 : decode cX2_fits 56 = .ok (.aload_n 0, 1) := by decide +kernel
theorem dX2_fits_57 : decode cX2_fits 57 = .ok (.iload_n 1, 1) := by decide +kernel
theorem dX2_fits_58 : decode cX2_fits 58 = .ok (.invokevirtual 23, 3) := by decide +kernel
theorem dX2_fits_61 : decode cX2_fits 61 = .ok (.iconst 0, 1) := by decide +kernel
theorem dX2_fits_62 : decode cX2_fits 62 = .ok (.bipush 9, 2) := by decide +kernel
theorem dX2_fits_64 : decode cX2_fits 64 = .ok (.invokestatic 30, 3) := by decide +kernel
theorem dX2_fits_67 : decode cX2_fits 67 = .ok (.ireturn, 1) := by decide +kernel
theorem dX2_fits_68 : decode cX2_fits 68 = .ok (.iload_n 1, 1) := by decide +kernel
theorem dX2_fits_69 : decode cX2_fits 69 = .ok (.bipush 18, 2) := by decide +kernel
theorem dX2_fits_71 : decode cX2_fits 71 = .ok (.if_icmp .ge 15, 3) := by decide +kernel
theorem dX2_fits_74 : decode cX2_fits 74 = .ok (.aload_n 0, 1) := by decide +kernel
theorem dX2_fits_75 : decode cX2_fits 75 = .ok (.iload_n 1, 1) := by decide +kernel
theorem dX2_fits_76 : decode cX2_fits 76 = .ok (.invokevirtual 34, 3) := by decide +kernel
theorem dX2_fits_79 : decode cX2_fits 79 = .ok (.ifCond .eq 7, 3) := by decide +kernel
theorem dX2_fits_82 : decode cX2_fits 82 = .ok (.iconst 1, 1) := by decide +kernel
theorem dX2_fits_83 : decode cX2_fits 83 = .ok (.goto 4, 3) := by decide +kernel
theorem dX2_fits_86 : decode cX2_fits 86 = .ok (.iconst 0, 1) := by decide +kernel
theorem dX2_fits_87 : decode cX2_fits 87 = .ok (.ireturn, 1) := by decide +kernel
set_option maxRecDepth 20000 in
theorem ggX2_fitsPart_X2_byteAt : GoodIn wsX2_fitsPart wsX2_byteAt := goodIn_r _ [5, 6, 14, 15] (by decide +kernel) (by decide +kernel)
set_option maxRecDepth 20000 in
theorem gX2_fitsPart_X2_byteAt : GoodIn wsX2_fitsPart (wsV RX2 19 RX2 yX2_byteAt wsX2_byteAt) := goodIn_app (goodIn_of _ (by decide +kernel)) ggX2_fitsPart_X2_byteAt
set_option maxRecDepth 20000 in
theorem ggX2_fitsPart_X2_figure : GoodIn wsX2_fitsPart wsX2_figure := goodIn_r _ [10, 1, 2, 3, 4, 5, 6, 14, 15] (by decide +kernel) (by decide +kernel)
set_option maxRecDepth 20000 in
theorem gX2_fitsPart_X2_figure : GoodIn wsX2_fitsPart (wsV RX2 23 RX2 yX2_figure wsX2_figure) := goodIn_app (goodIn_of _ (by decide +kernel)) ggX2_fitsPart_X2_figure
set_option maxRecDepth 20000 in
theorem ggX2_fitsPart_X4_within : GoodIn wsX2_fitsPart wsX4_within := goodIn_r _ [13] (by decide +kernel) (by decide +kernel)
set_option maxRecDepth 20000 in
theorem gX2_fitsPart_X4_within_n30 : GoodIn wsX2_fitsPart (wsX4_within) := ggX2_fitsPart_X4_within
theorem dX2_fitsPart_0 : decode cX2_fitsPart 0 = .ok (.iload_n 1, 1) := by decide +kernel
theorem dX2_fitsPart_1 : decode cX2_fitsPart 1 = .ok (.iconst 3, 1) := by decide +kernel
theorem dX2_fitsPart_2 : decode cX2_fitsPart 2 = .ok (.isub, 1) := by decide +kernel
theorem dX2_fitsPart_3 : decode cX2_fitsPart 3 = .ok (.iconst 3, 1) := by decide +kernel
theorem dX2_fitsPart_4 : decode cX2_fitsPart 4 = .ok (.irem, 1) := by decide +kernel
theorem dX2_fitsPart_5 : decode cX2_fitsPart 5 = .ok (.lookupswitch 54 #[(0, 27), (1, 43)], 27) := by decide +kernel
theorem dX2_fitsPart_32 : decode cX2_fitsPart 32 = .ok (.aload_n 0, 1) := by decide +kernel
theorem dX2_fitsPart_33 : decode cX2_fitsPart 33 = .ok (.iload_n 1, 1) := by decide +kernel
theorem dX2_fitsPart_34 : decode cX2_fitsPart 34 = .ok (.invokevirtual 19, 3) := by decide +kernel
theorem dX2_fitsPart_37 : decode cX2_fitsPart 37 = .ok (.bipush 87, 2) := by decide +kernel
theorem dX2_fitsPart_39 : decode cX2_fitsPart 39 = .ok (.if_icmp .ne 7, 3) := by decide +kernel
theorem dX2_fitsPart_42 : decode cX2_fitsPart 42 = .ok (.iconst 1, 1) := by decide +kernel
theorem dX2_fitsPart_43 : decode cX2_fitsPart 43 = .ok (.goto 4, 3) := by decide +kernel
theorem dX2_fitsPart_46 : decode cX2_fitsPart 46 = .ok (.iconst 0, 1) := by decide +kernel
theorem dX2_fitsPart_47 : decode cX2_fitsPart 47 = .ok (.ireturn, 1) := by decide +kernel
theorem dX2_fitsPart_48 : decode cX2_fitsPart 48 = .ok (.aload_n 0, 1) := by decide +kernel
theorem dX2_fitsPart_49 : decode cX2_fitsPart 49 = .ok (.iload_n 1, 1) := by decide +kernel
theorem dX2_fitsPart_50 : decode cX2_fitsPart 50 = .ok (.invokevirtual 23, 3) := by decide +kernel
theorem dX2_fitsPart_53 : decode cX2_fitsPart 53 = .ok (.iconst 0, 1) := by decide +kernel
theorem dX2_fitsPart_54 : decode cX2_fitsPart 54 = .ok (.iconst 5, 1) := by decide +kernel
theorem dX2_fitsPart_55 : decode cX2_fitsPart 55 = .ok (.invokestatic 30, 3) := by decide +kernel
theorem dX2_fitsPart_58 : decode cX2_fitsPart 58 = .ok (.ireturn, 1) := by decide +kernel
theorem dX2_fitsPart_59 : decode cX2_fitsPart 59 = .ok (.aload_n 0, 1) := by decide +kernel
theorem dX2_fitsPart_60 : decode cX2_fitsPart 60 = .ok (.iload_n 1, 1) := by decide +kernel
theorem dX2_fitsPart_61 : decode cX2_fitsPart 61 = .ok (.invokevirtual 23, 3) := by decide +kernel
theorem dX2_fitsPart_64 : decode cX2_fitsPart 64 = .ok (.iconst 0, 1) := by decide +kernel
theorem dX2_fitsPart_65 : decode cX2_fitsPart 65 = .ok (.iconst 3, 1) := by decide +kernel
theorem dX2_fitsPart_66 : decode cX2_fitsPart 66 = .ok (.invokestatic 30, 3) := by decide +kernel
theorem dX2_fitsPart_69 : decode cX2_fitsPart 69 = .ok (.ireturn, 1) := by decide +kernel
theorem dX2_byteAt_0 : decode cX2_byteAt 0 = .ok (.iload_n 1, 1) := by decide +kernel
theorem dX2_byteAt_1 : decode cX2_byteAt 1 = .ok (.ifCond .lt 21, 3) := by decide +kernel
theorem dX2_byteAt_4 : decode cX2_byteAt 4 = .ok (.iload_n 1, 1) := by decide +kernel
theorem dX2_byteAt_5 : decode cX2_byteAt 5 = .ok (.aload_n 0, 1) := by decide +kernel
theorem dX2_byteAt_6 : decode cX2_byteAt 6 = .ok (.getfield 9, 3) := by decide +kernel
theorem dX2_byteAt_9 : decode cX2_byteAt 9 = .ok (.arraylength, 1) := by decide +kernel
theorem dX2_byteAt_10 : decode cX2_byteAt 10 = .ok (.if_icmp .ge 12, 3) := by decide +kernel
theorem dX2_byteAt_13 : decode cX2_byteAt 13 = .ok (.aload_n 0, 1) := by decide +kernel
theorem dX2_byteAt_14 : decode cX2_byteAt 14 = .ok (.getfield 9, 3) := by decide +kernel
theorem dX2_byteAt_17 : decode cX2_byteAt 17 = .ok (.iload_n 1, 1) := by decide +kernel
theorem dX2_byteAt_18 : decode cX2_byteAt 18 = .ok (.iaload, 1) := by decide +kernel
theorem dX2_byteAt_19 : decode cX2_byteAt 19 = .ok (.goto 4, 3) := by decide +kernel
theorem dX2_byteAt_22 : decode cX2_byteAt 22 = .ok (.iconst 0, 1) := by decide +kernel
theorem dX2_byteAt_23 : decode cX2_byteAt 23 = .ok (.ireturn, 1) := by decide +kernel
theorem dX3_init_0 : decode cX3_init 0 = .ok (.aload_n 0, 1) := by decide +kernel
theorem dX3_init_1 : decode cX3_init 1 = .ok (.invokespecial 5, 3) := by decide +kernel
theorem dX3_init_4 : decode cX3_init 4 = .ok (.aload_n 0, 1) := by decide +kernel
theorem dX3_init_5 : decode cX3_init 5 = .ok (.iconst 0, 1) := by decide +kernel
theorem dX3_init_6 : decode cX3_init 6 = .ok (.putfield 11, 3) := by decide +kernel
theorem dX3_init_9 : decode cX3_init 9 = .ok (.aload_n 0, 1) := by decide +kernel
theorem dX3_init_10 : decode cX3_init 10 = .ok (.iconst 0, 1) := by decide +kernel
theorem dX3_init_11 : decode cX3_init 11 = .ok (.putfield 15, 3) := by decide +kernel
theorem dX3_init_14 : decode cX3_init 14 = .ok (.aload_n 0, 1) := by decide +kernel
theorem dX3_init_15 : decode cX3_init 15 = .ok (.iconst 0, 1) := by decide +kernel
theorem dX3_init_16 : decode cX3_init 16 = .ok (.putfield 18, 3) := by decide +kernel
theorem dX3_init_19 : decode cX3_init 19 = .ok (.aload_n 0, 1) := by decide +kernel
theorem dX3_init_20 : decode cX3_init 20 = .ok (.iconst 0, 1) := by decide +kernel
theorem dX3_init_21 : decode cX3_init 21 = .ok (.putfield 21, 3) := by decide +kernel
theorem dX3_init_24 : decode cX3_init 24 = .ok (.aload_n 0, 1) := by decide +kernel
theorem dX3_init_25 : decode cX3_init 25 = .ok (.aload_n 1, 1) := by decide +kernel
theorem dX3_init_26 : decode cX3_init 26 = .ok (.putfield 24, 3) := by decide +kernel
theorem dX3_init_29 : decode cX3_init 29 = .ok (.return_, 1) := by decide +kernel
theorem dX3_row_0 : decode cX3_row 0 = .ok (.aload_n 0, 1) := by decide +kernel
theorem dX3_row_1 : decode cX3_row 1 = .ok (.getfield 11, 3) := by decide +kernel
theorem dX3_row_4 : decode cX3_row 4 = .ok (.ireturn, 1) := by decide +kernel
theorem dX3_place_0 : decode cX3_place 0 = .ok (.aload_n 0, 1) := by decide +kernel
theorem dX3_place_1 : decode cX3_place 1 = .ok (.getfield 18, 3) := by decide +kernel
theorem dX3_place_4 : decode cX3_place 4 = .ok (.ireturn, 1) := by decide +kernel
set_option maxRecDepth 20000 in
theorem ggX3_size_X0_size : GoodIn wsX3_size wsX0_size := goodIn_r _ [5, 6, 7, 4, 8] (by decide +kernel) (by decide +kernel)
set_option maxRecDepth 20000 in
theorem gX3_size_X0_size : GoodIn wsX3_size (va_wsS RX3 28 yX0_size wsX0_size) := goodIn_app (goodIn_of _ (by decide +kernel)) ggX3_size_X0_size
theorem dX3_size_0 : decode cX3_size 0 = .ok (.aload_n 0, 1) := by decide +kernel
theorem dX3_size_1 : decode cX3_size 1 = .ok (.getfield 11, 3) := by decide +kernel
theorem dX3_size_4 : decode cX3_size 4 = .ok (.invokestatic 28, 3) := by decide +kernel
theorem dX3_size_7 : decode cX3_size 7 = .ok (.ireturn, 1) := by decide +kernel
set_option maxRecDepth 20000 in
theorem ggX3_members_X0_members : GoodIn wsX3_members wsX0_members := goodIn_r _ [5, 6, 7, 4, 8, 9, 10, 11] (by decide +kernel) (by decide +kernel)
set_option maxRecDepth 20000 in
theorem gX3_members_X0_members : GoodIn wsX3_members (va_wsS RX3 34 yX0_members wsX0_members) := goodIn_app (goodIn_of _ (by decide +kernel)) ggX3_members_X0_members
theorem dX3_members_0 : decode cX3_members 0 = .ok (.aload_n 0, 1) := by decide +kernel
theorem dX3_members_1 : decode cX3_members 1 = .ok (.getfield 11, 3) := by decide +kernel
theorem dX3_members_4 : decode cX3_members 4 = .ok (.invokestatic 34, 3) := by decide +kernel
theorem dX3_members_7 : decode cX3_members 7 = .ok (.ireturn, 1) := by decide +kernel
set_option maxRecDepth 20000 in
theorem ggX3_isOut_X1_light : GoodIn wsX3_isOut wsX1_light := goodIn_r _ [7, 8, 14, 15, 16, 17, 18] (by decide +kernel) (by decide +kernel)
set_option maxRecDepth 20000 in
theorem gX3_isOut_X1_light : GoodIn wsX3_isOut (wsV RX3 37 RX1 yX1_light wsX1_light) := goodIn_app (goodIn_of _ (by decide +kernel)) ggX3_isOut_X1_light
theorem dX3_isOut_0 : decode cX3_isOut 0 = .ok (.aload_n 0, 1) := by decide +kernel
theorem dX3_isOut_1 : decode cX3_isOut 1 = .ok (.getfield 18, 3) := by decide +kernel
theorem dX3_isOut_4 : decode cX3_isOut 4 = .ok (.aload_n 0, 1) := by decide +kernel
theorem dX3_isOut_5 : decode cX3_isOut 5 = .ok (.getfield 24, 3) := by decide +kernel
theorem dX3_isOut_8 : decode cX3_isOut 8 = .ok (.invokevirtual 37, 3) := by decide +kernel
theorem dX3_isOut_11 : decode cX3_isOut 11 = .ok (.if_icmp .lt 7, 3) := by decide +kernel
theorem dX3_isOut_14 : decode cX3_isOut 14 = .ok (.iconst 1, 1) := by decide +kernel
theorem dX3_isOut_15 : decode cX3_isOut 15 = .ok (.goto 4, 3) := by decide +kernel
theorem dX3_isOut_18 : decode cX3_isOut 18 = .ok (.iconst 0, 1) := by decide +kernel
theorem dX3_isOut_19 : decode cX3_isOut 19 = .ok (.ireturn, 1) := by decide +kernel
set_option maxRecDepth 20000 in
theorem ggX3_quiet_X0_at : GoodIn wsX3_quiet wsX0_at := goodIn_r _ [5] (by decide +kernel) (by decide +kernel)
set_option maxRecDepth 20000 in
theorem gX3_quiet_X0_at : GoodIn wsX3_quiet (va_wsS RX3 43 yX0_at wsX0_at) := goodIn_app (goodIn_of _ (by decide +kernel)) ggX3_quiet_X0_at
theorem dX3_quiet_0 : decode cX3_quiet 0 = .ok (.aload_n 0, 1) := by decide +kernel
theorem dX3_quiet_1 : decode cX3_quiet 1 = .ok (.getfield 15, 3) := by decide +kernel
theorem dX3_quiet_4 : decode cX3_quiet 4 = .ok (.iload_n 1, 1) := by decide +kernel
theorem dX3_quiet_5 : decode cX3_quiet 5 = .ok (.invokestatic 43, 3) := by decide +kernel
theorem dX3_quiet_8 : decode cX3_quiet 8 = .ok (.ireturn, 1) := by decide +kernel
theorem dX3_turned_0 : decode cX3_turned 0 = .ok (.aload_n 0, 1) := by decide +kernel
theorem dX3_turned_1 : decode cX3_turned 1 = .ok (.getfield 21, 3) := by decide +kernel
theorem dX3_turned_4 : decode cX3_turned 4 = .ok (.ireturn, 1) := by decide +kernel
set_option maxRecDepth 20000 in
theorem ggX3_indexOf_X3_size : GoodIn wsX3_indexOf wsX3_size := goodIn_r _ [5, 6, 7, 8, 9, 10, 11, 12, 13, 19, 20, 21, 22, 23] (by decide +kernel) (by decide +kernel)
set_option maxRecDepth 20000 in
theorem gX3_indexOf_X3_size : GoodIn wsX3_indexOf (wsV RX3 47 RX3 yX3_size wsX3_size) := goodIn_app (goodIn_of _ (by decide +kernel)) ggX3_indexOf_X3_size
set_option maxRecDepth 20000 in
theorem ggX3_indexOf_X3_walkerAt : GoodIn wsX3_indexOf wsX3_walkerAt := goodIn_r _ [17, 6, 18, 12, 9, 13, 19, 20, 21, 22, 23] (by decide +kernel) (by decide +kernel)
set_option maxRecDepth 20000 in
theorem gX3_indexOf_X3_walkerAt : GoodIn wsX3_indexOf (wsV RX3 49 RX3 yX3_walkerAt wsX3_walkerAt) := goodIn_app (goodIn_of _ (by decide +kernel)) ggX3_indexOf_X3_walkerAt
theorem dX3_indexOf_0 : decode cX3_indexOf 0 = .ok (.iconst 0, 1) := by decide +kernel
theorem dX3_indexOf_1 : decode cX3_indexOf 1 = .ok (.istore_n 2, 1) := by decide +kernel
theorem dX3_indexOf_2 : decode cX3_indexOf 2 = .ok (.iload_n 2, 1) := by decide +kernel
theorem dX3_indexOf_3 : decode cX3_indexOf 3 = .ok (.aload_n 0, 1) := by decide +kernel
theorem dX3_indexOf_4 : decode cX3_indexOf 4 = .ok (.invokevirtual 47, 3) := by decide +kernel
theorem dX3_indexOf_7 : decode cX3_indexOf 7 = .ok (.if_icmp .ge 20, 3) := by decide +kernel
theorem dX3_indexOf_10 : decode cX3_indexOf 10 = .ok (.aload_n 0, 1) := by decide +kernel
theorem dX3_indexOf_11 : decode cX3_indexOf 11 = .ok (.iload_n 2, 1) := by decide +kernel
theorem dX3_indexOf_12 : decode cX3_indexOf 12 = .ok (.invokevirtual 49, 3) := by decide +kernel
theorem dX3_indexOf_15 : decode cX3_indexOf 15 = .ok (.iload_n 1, 1) := by decide +kernel
theorem dX3_indexOf_16 : decode cX3_indexOf 16 = .ok (.if_icmp .ne 5, 3) := by decide +kernel
theorem dX3_indexOf_19 : decode cX3_indexOf 19 = .ok (.iload_n 2, 1) := by decide +kernel
theorem dX3_indexOf_20 : decode cX3_indexOf 20 = .ok (.ireturn, 1) := by decide +kernel
theorem dX3_indexOf_21 : decode cX3_indexOf 21 = .ok (.iinc 2 1, 3) := by decide +kernel
theorem dX3_indexOf_24 : decode cX3_indexOf 24 = .ok (.goto (-22), 3) := by decide +kernel
theorem dX3_indexOf_27 : decode cX3_indexOf 27 = .ok (.bipush (-9), 2) := by decide +kernel
theorem dX3_indexOf_29 : decode cX3_indexOf 29 = .ok (.ireturn, 1) := by decide +kernel
set_option maxRecDepth 20000 in
theorem ggX3_behind_X3_indexOf : GoodIn wsX3_behind wsX3_indexOf := goodIn_r _ [5, 6, 7, 8, 4, 9, 10, 11, 12, 13, 14, 15, 16, 17, 18, 19, 20, 21, 22, 23, 24, 25, 26, 27] (by decide +kernel) (by decide +kernel)
set_option maxRecDepth 20000 in
theorem gX3_behind_X3_indexOf : GoodIn wsX3_behind (wsV RX3 52 RX3 yX3_indexOf wsX3_indexOf) := goodIn_app (goodIn_of _ (by decide +kernel)) ggX3_behind_X3_indexOf
set_option maxRecDepth 20000 in
theorem ggX3_behind_X3_size : GoodIn wsX3_behind wsX3_size := goodIn_r _ [9, 10, 11, 12, 13, 14, 15, 16, 17, 23, 24, 25, 26, 27] (by decide +kernel) (by decide +kernel)
set_option maxRecDepth 20000 in
theorem gX3_behind_X3_size : GoodIn wsX3_behind (wsV RX3 47 RX3 yX3_size wsX3_size) := goodIn_app (goodIn_of _ (by decide +kernel)) ggX3_behind_X3_size
set_option maxRecDepth 20000 in
theorem ggX3_behind_X3_walkerAt : GoodIn wsX3_behind wsX3_walkerAt := goodIn_r _ [21, 10, 22, 16, 13, 17, 23, 24, 25, 26, 27] (by decide +kernel) (by decide +kernel)
set_option maxRecDepth 20000 in
theorem gX3_behind_X3_walkerAt : GoodIn wsX3_behind (wsV RX3 49 RX3 yX3_walkerAt wsX3_walkerAt) := goodIn_app (goodIn_of _ (by decide +kernel)) ggX3_behind_X3_walkerAt
theorem dX3_behind_0 : decode cX3_behind 0 = .ok (.aload_n 0, 1) := by decide +kernel
theorem dX3_behind_1 : decode cX3_behind 1 = .ok (.iload_n 1, 1) := by decide +kernel
theorem dX3_behind_2 : decode cX3_behind 2 = .ok (.invokevirtual 52, 3) := by decide +kernel
theorem dX3_behind_5 : decode cX3_behind 5 = .ok (.istore_n 2, 1) := by decide +kernel
theorem dX3_behind_6 : decode cX3_behind 6 = .ok (.iload_n 2, 1) := by decide +kernel
theorem dX3_behind_7 : decode cX3_behind 7 = .ok (.bipush (-9), 2) := by decide +kernel
theorem dX3_behind_9 : decode cX3_behind 9 = .ok (.if_icmp .eq 13, 3) := by decide +kernel
theorem dX3_behind_12 : decode cX3_behind 12 = .ok (.iload_n 2, 1) := by decide +kernel
theorem dX3_behind_13 : decode cX3_behind 13 = .ok (.iconst 1, 1) := by decide +kernel
theorem dX3_behind_14 : decode cX3_behind 14 = .ok (.iadd, 1) := by decide +kernel
theorem dX3_behind_15 : decode cX3_behind 15 = .ok (.aload_n 0, 1) := by decide +kernel
theorem dX3_behind_16 : decode cX3_behind 16 = .ok (.invokevirtual 47, 3) := by decide +kernel
theorem dX3_behind_19 : decode cX3_behind 19 = .ok (.if_icmp .lt 8, 3) := by decide +kernel
theorem dX3_behind_22 : decode cX3_behind 22 = .ok (.bipush (-9), 2) := by decide +kernel
theorem dX3_behind_24 : decode cX3_behind 24 = .ok (.goto 10, 3) := by decide +kernel
theorem dX3_behind_27 : decode cX3_behind 27 = .ok (.aload_n 0, 1) := by decide +kernel
theorem dX3_behind_28 : decode cX3_behind 28 = .ok (.iload_n 2, 1) := by decide +kernel
theorem dX3_behind_29 : decode cX3_behind 29 = .ok (.iconst 1, 1) := by decide +kernel
theorem dX3_behind_30 : decode cX3_behind 30 = .ok (.iadd, 1) := by decide +kernel
theorem dX3_behind_31 : decode cX3_behind 31 = .ok (.invokevirtual 49, 3) := by decide +kernel
theorem dX3_behind_34 : decode cX3_behind 34 = .ok (.ireturn, 1) := by decide +kernel
set_option maxRecDepth 20000 in
theorem ggX3_start_X1_everybody : GoodIn wsX3_start wsX1_everybody := goodIn_r _ [6, 7, 28, 29, 30, 31, 32] (by decide +kernel) (by decide +kernel)
set_option maxRecDepth 20000 in
theorem gX3_start_X1_everybody : GoodIn wsX3_start (wsV RX3 55 RX1 yX1_everybody wsX1_everybody) := goodIn_app (goodIn_of _ (by decide +kernel)) ggX3_start_X1_everybody
set_option maxRecDepth 20000 in
theorem ggX3_start_X0_ascending : GoodIn wsX3_start wsX0_ascending := goodIn_r _ [11, 12, 13, 10, 14] (by decide +kernel) (by decide +kernel)
set_option maxRecDepth 20000 in
theorem gX3_start_X0_ascending : GoodIn wsX3_start (va_wsS RX3 58 yX0_ascending wsX0_ascending) := goodIn_app (goodIn_of _ (by decide +kernel)) ggX3_start_X0_ascending
set_option maxRecDepth 20000 in
theorem ggX3_start_X3_lineUp : GoodIn wsX3_start wsX3_lineUp := goodIn_r _ [19, 20, 21, 22, 23, 24, 25, 26, 27] (by decide +kernel) (by decide +kernel)
set_option maxRecDepth 20000 in
theorem gX3_start_X3_lineUp : GoodIn wsX3_start (wsV RX3 61 RX3 yX3_lineUp wsX3_lineUp) := goodIn_app (goodIn_of _ (by decide +kernel)) ggX3_start_X3_lineUp
theorem dX3_start_0 : decode cX3_start 0 = .ok (.aload_n 0, 1) := by decide +kernel
theorem dX3_start_1 : decode cX3_start 1 = .ok (.aload_n 0, 1) := by decide +kernel
theorem dX3_start_2 : decode cX3_start 2 = .ok (.getfield 24, 3) := by decide +kernel
theorem dX3_start_5 : decode cX3_start 5 = .ok (.invokevirtual 55, 3) := by decide +kernel
theorem dX3_start_8 : decode cX3_start 8 = .ok (.invokestatic 58, 3) := by decide +kernel
theorem dX3_start_11 : decode cX3_start 11 = .ok (.iconst 0, 1) := by decide +kernel
theorem dX3_start_12 : decode cX3_start 12 = .ok (.invokevirtual 61, 3) := by decide +kernel
theorem dX3_start_15 : decode cX3_start 15 = .ok (.return_, 1) := by decide +kernel
theorem dX3_lineUp_0 : decode cX3_lineUp 0 = .ok (.aload_n 0, 1) := by decide +kernel
theorem dX3_lineUp_1 : decode cX3_lineUp 1 = .ok (.iload_n 1, 1) := by decide +kernel
theorem dX3_lineUp_2 : decode cX3_lineUp 2 = .ok (.putfield 11, 3) := by decide +kernel
theorem dX3_lineUp_5 : decode cX3_lineUp 5 = .ok (.aload_n 0, 1) := by decide +kernel
theorem dX3_lineUp_6 : decode cX3_lineUp 6 = .ok (.iconst 0, 1) := by decide +kernel
theorem dX3_lineUp_7 : decode cX3_lineUp 7 = .ok (.putfield 15, 3) := by decide +kernel
theorem dX3_lineUp_10 : decode cX3_lineUp 10 = .ok (.aload_n 0, 1) := by decide +kernel
theorem dX3_lineUp_11 : decode cX3_lineUp 11 = .ok (.iload_n 2, 1) := by decide +kernel
theorem dX3_lineUp_12 : decode cX3_lineUp 12 = .ok (.putfield 18, 3) := by decide +kernel
theorem dX3_lineUp_15 : decode cX3_lineUp 15 = .ok (.return_, 1) := by decide +kernel
theorem dX3_state_0 : decode cX3_state 0 = .ok (.aload_n 0, 1) := by decide +kernel
theorem dX3_state_1 : decode cX3_state 1 = .ok (.getfield 18, 3) := by decide +kernel
theorem dX3_state_4 : decode cX3_state 4 = .ok (.i2l, 1) := by decide +kernel
theorem dX3_state_5 : decode cX3_state 5 = .ok (.bipush 20, 2) := by decide +kernel
theorem dX3_state_7 : decode cX3_state 7 = .ok (.lshl, 1) := by decide +kernel
theorem dX3_state_8 : decode cX3_state 8 = .ok (.aload_n 0, 1) := by decide +kernel
theorem dX3_state_9 : decode cX3_state 9 = .ok (.getfield 15, 3) := by decide +kernel
theorem dX3_state_12 : decode cX3_state 12 = .ok (.i2l, 1) := by decide +kernel
theorem dX3_state_13 : decode cX3_state 13 = .ok (.lor, 1) := by decide +kernel
theorem dX3_state_14 : decode cX3_state 14 = .ok (.bipush 20, 2) := by decide +kernel
theorem dX3_state_16 : decode cX3_state 16 = .ok (.lshl, 1) := by decide +kernel
theorem dX3_state_17 : decode cX3_state 17 = .ok (.aload_n 0, 1) := by decide +kernel
theorem dX3_state_18 : decode cX3_state 18 = .ok (.getfield 11, 3) := by decide +kernel
theorem dX3_state_21 : decode cX3_state 21 = .ok (.i2l, 1) := by decide +kernel
theorem dX3_state_22 : decode cX3_state 22 = .ok (.lor, 1) := by decide +kernel
theorem dX3_state_23 : decode cX3_state 23 = .ok (.lreturn, 1) := by decide +kernel
theorem dX3_become_0 : decode cX3_become 0 = .ok (.aload_n 0, 1) := by decide +kernel
theorem dX3_become_1 : decode cX3_become 1 = .ok (.lload_n 1, 1) := by decide +kernel
theorem dX3_become_2 : decode cX3_become 2 = .ok (.l2i, 1) := by decide +kernel
theorem dX3_become_3 : decode cX3_become 3 = .ok (.ldc 65, 2) := by decide +kernel
theorem dX3_become_5 : decode cX3_become 5 = .ok (.iand, 1) := by decide +kernel
theorem dX3_become_6 : decode cX3_become 6 = .ok (.putfield 11, 3) := by decide +kernel
theorem dX3_become_9 : decode cX3_become 9 = .ok (.aload_n 0, 1) := by decide +kernel
theorem dX3_become_10 : decode cX3_become 10 = .ok (.lload_n 1, 1) := by decide +kernel
theorem dX3_become_11 : decode cX3_become 11 = .ok (.bipush 20, 2) := by decide +kernel
theorem dX3_become_13 : decode cX3_become 13 = .ok (.lushr, 1) := by decide +kernel
theorem dX3_become_14 : decode cX3_become 14 = .ok (.l2i, 1) := by decide +kernel
theorem dX3_become_15 : decode cX3_become 15 = .ok (.ldc 65, 2) := by decide +kernel
theorem dX3_become_17 : decode cX3_become 17 = .ok (.iand, 1) := by decide +kernel
theorem dX3_become_18 : decode cX3_become 18 = .ok (.putfield 15, 3) := by decide +kernel
theorem dX3_become_21 : decode cX3_become 21 = .ok (.aload_n 0, 1) := by decide +kernel
theorem dX3_become_22 : decode cX3_become 22 = .ok (.lload_n 1, 1) := by decide +kernel
theorem dX3_become_23 : decode cX3_become 23 = .ok (.bipush 40, 2) := by decide +kernel
theorem dX3_become_25 : decode cX3_become 25 = .ok (.lushr, 1) := by decide +kernel
theorem dX3_become_26 : decode cX3_become 26 = .ok (.l2i, 1) := by decide +kernel
theorem dX3_become_27 : decode cX3_become 27 = .ok (.putfield 18, 3) := by decide +kernel
theorem dX3_become_30 : decode cX3_become 30 = .ok (.return_, 1) := by decide +kernel
set_option maxRecDepth 20000 in
theorem ggX3_changePlaces_X0_swapped : GoodIn wsX3_changePlaces wsX0_swapped := goodIn_r _ [5, 6, 7, 4, 8, 9, 10, 11] (by decide +kernel) (by decide +kernel)
set_option maxRecDepth 20000 in
theorem gX3_changePlaces_X0_swapped : GoodIn wsX3_changePlaces (va_wsS RX3 66 yX0_swapped wsX0_swapped) := goodIn_app (goodIn_of _ (by decide +kernel)) ggX3_changePlaces_X0_swapped
set_option maxRecDepth 20000 in
theorem ggX3_changePlaces_X3_walkerAt : GoodIn wsX3_changePlaces wsX3_walkerAt := goodIn_r _ [16, 1, 17, 7, 4, 8, 24, 25, 26, 27, 28] (by decide +kernel) (by decide +kernel)
set_option maxRecDepth 20000 in
theorem gX3_changePlaces_X3_walkerAt : GoodIn wsX3_changePlaces (wsV RX3 49 RX3 yX3_walkerAt wsX3_walkerAt) := goodIn_app (goodIn_of _ (by decide +kernel)) ggX3_changePlaces_X3_walkerAt
set_option maxRecDepth 20000 in
theorem ggX3_changePlaces_X3_setQuiet : GoodIn wsX3_changePlaces wsX3_setQuiet := goodIn_r _ [21, 22, 23, 10, 4, 11, 24, 25, 26, 27, 28] (by decide +kernel) (by decide +kernel)
set_option maxRecDepth 20000 in
theorem gX3_changePlaces_X3_setQuiet : GoodIn wsX3_changePlaces (wsV RX3 70 RX3 yX3_setQuiet wsX3_setQuiet) := goodIn_app (goodIn_of _ (by decide +kernel)) ggX3_changePlaces_X3_setQuiet
theorem dX3_changePlaces_0 : decode cX3_changePlaces 0 = .ok (.aload_n 0, 1) := by decide +kernel
theorem dX3_changePlaces_1 : decode cX3_changePlaces 1 = .ok (.aload_n 0, 1) := by decide +kernel
theorem dX3_changePlaces_2 : decode cX3_changePlaces 2 = .ok (.getfield 11, 3) := by decide +kernel
theorem dX3_changePlaces_5 : decode cX3_changePlaces 5 = .ok (.iload_n 1, 1) := by decide +kernel
theorem dX3_changePlaces_6 : decode cX3_changePlaces 6 = .ok (.iload_n 1, 1) := by decide +kernel
theorem dX3_changePlaces_7 : decode cX3_changePlaces 7 = .ok (.iconst 1, 1) := by decide +kernel
theorem dX3_changePlaces_8 : decode cX3_changePlaces 8 = .ok (.iadd, 1) := by decide +kernel
theorem dX3_changePlaces_9 : decode cX3_changePlaces 9 = .ok (.invokestatic 66, 3) := by decide +kernel
theorem dX3_changePlaces_12 : decode cX3_changePlaces 12 = .ok (.putfield 11, 3) := by decide +kernel
theorem dX3_changePlaces_15 : decode cX3_changePlaces 15 = .ok (.aload_n 0, 1) := by decide +kernel
theorem dX3_changePlaces_16 : decode cX3_changePlaces 16 = .ok (.aload_n 0, 1) := by decide +kernel
theorem dX3_changePlaces_17 : decode cX3_changePlaces 17 = .ok (.iload_n 1, 1) := by decide +kernel
theorem dX3_changePlaces_18 : decode cX3_changePlaces 18 = .ok (.invokevirtual 49, 3) := by decide +kernel
theorem dX3_changePlaces_21 : decode cX3_changePlaces 21 = .ok (.iconst 0, 1) := by decide +kernel
theorem dX3_changePlaces_22 : decode cX3_changePlaces 22 = .ok (.invokevirtual 70, 3) := by decide +kernel
theorem dX3_changePlaces_25 : decode cX3_changePlaces 25 = .ok (.aload_n 0, 1) := by decide +kernel
theorem dX3_changePlaces_26 : decode cX3_changePlaces 26 = .ok (.aload_n 0, 1) := by decide +kernel
theorem dX3_changePlaces_27 : decode cX3_changePlaces 27 = .ok (.iload_n 1, 1) := by decide +kernel
theorem dX3_changePlaces_28 : decode cX3_changePlaces 28 = .ok (.iconst 1, 1) := by decide +kernel
theorem dX3_changePlaces_29 : decode cX3_changePlaces 29 = .ok (.iadd, 1) := by decide +kernel
theorem dX3_changePlaces_30 : decode cX3_changePlaces 30 = .ok (.invokevirtual 49, 3) := by decide +kernel
theorem dX3_changePlaces_33 : decode cX3_changePlaces 33 = .ok (.iconst 0, 1) := by decide +kernel
theorem dX3_changePlaces_34 : decode cX3_changePlaces 34 = .ok (.invokevirtual 70, 3) := by decide +kernel
theorem dX3_changePlaces_37 : decode cX3_changePlaces 37 = .ok (.return_, 1) := by decide +kernel
set_option maxRecDepth 20000 in
theorem ggX3_calm_X3_size : GoodIn wsX3_calm wsX3_size := goodIn_r _ [5, 6, 7, 8, 9, 10, 11, 12, 13, 31, 32, 33, 34, 35] (by decide +kernel) (by decide +kernel)
set_option maxRecDepth 20000 in
theorem gX3_calm_X3_size : GoodIn wsX3_calm (wsV RX3 47 RX3 yX3_size wsX3_size) := goodIn_app (goodIn_of _ (by decide +kernel)) ggX3_calm_X3_size
set_option maxRecDepth 20000 in
theorem ggX3_calm_X3_walkerAt : GoodIn wsX3_calm wsX3_walkerAt := goodIn_r _ [17, 6, 18, 12, 9, 13, 31, 32, 33, 34, 35] (by decide +kernel) (by decide +kernel)
set_option maxRecDepth 20000 in
theorem gX3_calm_X3_walkerAt : GoodIn wsX3_calm (wsV RX3 49 RX3 yX3_walkerAt wsX3_walkerAt) := goodIn_app (goodIn_of _ (by decide +kernel)) ggX3_calm_X3_walkerAt
set_option maxRecDepth 20000 in
theorem ggX3_calm_X3_quiet : GoodIn wsX3_calm wsX3_quiet := goodIn_r _ [22, 23, 18, 12, 9, 13, 31, 32, 33, 34, 35] (by decide +kernel) (by decide +kernel)
set_option maxRecDepth 20000 in
theorem gX3_calm_X3_quiet : GoodIn wsX3_calm (wsV RX3 73 RX3 yX3_quiet wsX3_quiet) := goodIn_app (goodIn_of _ (by decide +kernel)) ggX3_calm_X3_quiet
set_option maxRecDepth 20000 in
theorem ggX3_calm_X3_setQuiet : GoodIn wsX3_calm wsX3_setQuiet := goodIn_r _ [27, 23, 28, 29, 9, 30, 31, 32, 33, 34, 35] (by decide +kernel) (by decide +kernel)
set_option maxRecDepth 20000 in
theorem gX3_calm_X3_setQuiet : GoodIn wsX3_calm (wsV RX3 70 RX3 yX3_setQuiet wsX3_setQuiet) := goodIn_app (goodIn_of _ (by decide +kernel)) ggX3_calm_X3_setQuiet
theorem dX3_calm_0 : decode cX3_calm 0 = .ok (.iconst 0, 1) := by decide +kernel
theorem dX3_calm_1 : decode cX3_calm 1 = .ok (.istore_n 1, 1) := by decide +kernel
theorem dX3_calm_2 : decode cX3_calm 2 = .ok (.iconst 0, 1) := by decide +kernel
theorem dX3_calm_3 : decode cX3_calm 3 = .ok (.istore_n 2, 1) := by decide +kernel
theorem dX3_calm_4 : decode cX3_calm 4 = .ok (.iload_n 2, 1) := by decide +kernel
theorem dX3_calm_5 : decode cX3_calm 5 = .ok (.aload_n 0, 1) := by decide +kernel
theorem dX3_calm_6 : decode cX3_calm 6 = .ok (.invokevirtual 47, 3) := by decide +kernel
theorem dX3_calm_9 : decode cX3_calm 9 = .ok (.if_icmp .ge 34, 3) := by decide +kernel
theorem dX3_calm_12 : decode cX3_calm 12 = .ok (.aload_n 0, 1) := by decide +kernel
theorem dX3_calm_13 : decode cX3_calm 13 = .ok (.aload_n 0, 1) := by decide +kernel
theorem dX3_calm_14 : decode cX3_calm 14 = .ok (.iload_n 2, 1) := by decide +kernel
theorem dX3_calm_15 : decode cX3_calm 15 = .ok (.invokevirtual 49, 3) := by decide +kernel
theorem dX3_calm_18 : decode cX3_calm 18 = .ok (.invokevirtual 73, 3) := by decide +kernel
theorem dX3_calm_21 : decode cX3_calm 21 = .ok (.ifCond .le 16, 3) := by decide +kernel
theorem dX3_calm_24 : decode cX3_calm 24 = .ok (.iinc 1 1, 3) := by decide +kernel
theorem dX3_calm_27 : decode cX3_calm 27 = .ok (.aload_n 0, 1) := by decide +kernel
theorem dX3_calm_28 : decode cX3_calm 28 = .ok (.aload_n 0, 1) := by decide +kernel
theorem dX3_calm_29 : decode cX3_calm 29 = .ok (.iload_n 2, 1) := by decide +kernel
theorem dX3_calm_30 : decode cX3_calm 30 = .ok (.invokevirtual 49, 3) := by decide +kernel
theorem dX3_calm_33 : decode cX3_calm 33 = .ok (.iconst 0, 1) := by decide +kernel
theorem dX3_calm_34 : decode cX3_calm 34 = .ok (.invokevirtual 70, 3) := by decide +kernel
theorem dX3_calm_37 : decode cX3_calm 37 = .ok (.iinc 2 1, 3) := by decide +kernel
theorem dX3_calm_40 : decode cX3_calm 40 = .ok (.goto (-36), 3) := by decide +kernel
theorem dX3_calm_43 : decode cX3_calm 43 = .ok (.iload_n 1, 1) := by decide +kernel
theorem dX3_calm_44 : decode cX3_calm 44 = .ok (.ireturn, 1) := by decide +kernel
set_option maxRecDepth 20000 in
theorem ggX3_sing_X3_isOut : GoodIn wsX3_sing wsX3_isOut := goodIn_r _ [6, 7, 8, 9, 10, 11, 12, 13, 14, 79, 80, 81, 82, 83, 84, 85, 86, 87, 88] (by decide +kernel) (by decide +kernel)
set_option maxRecDepth 20000 in
theorem gX3_sing_X3_isOut : GoodIn wsX3_sing (wsV RX3 76 RX3 yX3_isOut wsX3_isOut) := goodIn_app (goodIn_of _ (by decide +kernel)) ggX3_sing_X3_isOut
set_option maxRecDepth 20000 in
theorem ggX3_sing_X3_treadsOf : GoodIn wsX3_sing wsX3_treadsOf := goodIn_r _ [17, 18] (by decide +kernel) (by decide +kernel)
set_option maxRecDepth 20000 in
theorem gX3_sing_X3_treadsOf : GoodIn wsX3_sing (va_wsS RX3 80 yX3_treadsOf wsX3_treadsOf) := goodIn_app (goodIn_of _ (by decide +kernel)) ggX3_sing_X3_treadsOf
set_option maxRecDepth 20000 in
theorem ggX3_sing_X3_step : GoodIn wsX3_sing wsX3_step := goodIn_r _ [22, 8, 7, 23, 24, 25, 5, 26, 27, 28, 29, 30, 31, 32, 33, 34, 35, 36, 37, 38, 39, 40, 41, 42, 12, 43, 44, 45, 46, 47, 48, 49, 50, 51, 52, 53, 54, 55, 56, 57, 58, 59, 60, 61, 62, 63, 64, 65, 66, 67, 68, 69, 70, 1, 71, 72, 73, 74, 75, 76, 77, 78, 79, 80, 81, 82, 83, 84, 85, 86, 87, 88] (by decide +kernel) (by decide +kernel)
set_option maxRecDepth 20000 in
theorem gX3_sing_X3_step : GoodIn wsX3_sing (wsV RX3 84 RX3 yX3_step wsX3_step) := goodIn_app (goodIn_of _ (by decide +kernel)) ggX3_sing_X3_step
theorem dX3_sing_0 : decode cX3_sing 0 = .ok (.bipush (-9), 2) := by decide +kernel
theorem dX3_sing_2 : decode cX3_sing 2 = .ok (.istore 4, 2) := by decide +kernel
theorem dX3_sing_4 : decode cX3_sing 4 = .ok (.iconst 0, 1) := by decide +kernel
theorem dX3_sing_5 : decode cX3_sing 5 = .ok (.istore 5, 2) := by decide +kernel
theorem dX3_sing_7 : decode cX3_sing 7 = .ok (.iload 5, 2) := by decide +kernel
theorem dX3_sing_9 : decode cX3_sing 9 = .ok (.iload_n 1, 1) := by decide +kernel
theorem dX3_sing_10 : decode cX3_sing 10 = .ok (.if_icmp .ge 49, 3) := by decide +kernel
theorem dX3_sing_13 : decode cX3_sing 13 = .ok (.aload_n 0, 1) := by decide +kernel
theorem dX3_sing_14 : decode cX3_sing 14 = .ok (.invokevirtual 76, 3) := by decide +kernel
theorem dX3_sing_17 : decode cX3_sing 17 = .ok (.ifCond .ne 42, 3) := by decide +kernel
theorem dX3_sing_20 : decode cX3_sing 20 = .ok (.aload_n 0, 1) := by decide +kernel
theorem dX3_sing_21 : decode cX3_sing 21 = .ok (.lload_n 2, 1) := by decide +kernel
theorem dX3_sing_22 : decode cX3_sing 22 = .ok (.iload_n 1, 1) := by decide +kernel
theorem dX3_sing_23 : decode cX3_sing 23 = .ok (.iconst 1, 1) := by decide +kernel
theorem dX3_sing_24 : decode cX3_sing 24 = .ok (.isub, 1) := by decide +kernel
theorem dX3_sing_25 : decode cX3_sing 25 = .ok (.iload 5, 2) := by decide +kernel
theorem dX3_sing_27 : decode cX3_sing 27 = .ok (.isub, 1) := by decide +kernel
theorem dX3_sing_28 : decode cX3_sing 28 = .ok (.invokestatic 80, 3) := by decide +kernel
theorem dX3_sing_31 : decode cX3_sing 31 = .ok (.invokevirtual 84, 3) := by decide +kernel
theorem dX3_sing_34 : decode cX3_sing 34 = .ok (.pop, 1) := by decide +kernel
theorem dX3_sing_35 : decode cX3_sing 35 = .ok (.aload_n 0, 1) := by decide +kernel
theorem dX3_sing_36 : decode cX3_sing 36 = .ok (.getfield 21, 3) := by decide +kernel
theorem dX3_sing_39 : decode cX3_sing 39 = .ok (.ifCond .eq 14, 3) := by decide +kernel
theorem dX3_sing_42 : decode cX3_sing 42 = .ok (.iload 4, 2) := by decide +kernel
theorem dX3_sing_44 : decode cX3_sing 44 = .ok (.bipush (-9), 2) := by decide +kernel
theorem dX3_sing_46 : decode cX3_sing 46 = .ok (.if_icmp .ne 7, 3) := by decide +kernel
theorem dX3_sing_49 : decode cX3_sing 49 = .ok (.iload 5, 2) := by decide +kernel
theorem dX3_sing_51 : decode cX3_sing 51 = .ok (.istore 4, 2) := by decide +kernel
theorem dX3_sing_53 : decode cX3_sing 53 = .ok (.iinc 5 1, 3) := by decide +kernel
theorem dX3_sing_56 : decode cX3_sing 56 = .ok (.goto (-49), 3) := by decide +kernel
theorem dX3_sing_59 : decode cX3_sing 59 = .ok (.iload 4, 2) := by decide +kernel
theorem dX3_sing_61 : decode cX3_sing 61 = .ok (.ireturn, 1) := by decide +kernel
set_option maxRecDepth 20000 in
theorem ggX3_step_X3_size : GoodIn wsX3_step wsX3_size := goodIn_r _ [7, 8, 9, 10, 11, 12, 13, 14, 15, 62, 63, 64, 65, 66] (by decide +kernel) (by decide +kernel)
set_option maxRecDepth 20000 in
theorem gX3_step_X3_size : GoodIn wsX3_step (wsV RX3 47 RX3 yX3_size wsX3_size) := goodIn_app (goodIn_of _ (by decide +kernel)) ggX3_step_X3_size
set_option maxRecDepth 20000 in
theorem ggX3_step_X3_walkerAt : GoodIn wsX3_step wsX3_walkerAt := goodIn_r _ [19, 8, 20, 14, 11, 15, 62, 63, 64, 65, 66] (by decide +kernel) (by decide +kernel)
set_option maxRecDepth 20000 in
theorem gX3_step_X3_walkerAt : GoodIn wsX3_step (wsV RX3 49 RX3 yX3_walkerAt wsX3_walkerAt) := goodIn_app (goodIn_of _ (by decide +kernel)) ggX3_step_X3_walkerAt
set_option maxRecDepth 20000 in
theorem ggX3_step_X1_kind : GoodIn wsX3_step wsX1_kind := goodIn_r _ [25, 26, 27, 14, 11, 15, 67, 68, 69, 70, 71] (by decide +kernel) (by decide +kernel)
set_option maxRecDepth 20000 in
theorem gX3_step_X1_kind : GoodIn wsX3_step (wsV RX3 87 RX1 yX1_kind wsX1_kind) := goodIn_app (goodIn_of _ (by decide +kernel)) ggX3_step_X1_kind
set_option maxRecDepth 20000 in
theorem ggX3_step_X3_isHeard : GoodIn wsX3_step wsX3_isHeard := goodIn_r _ [31, 1, 2, 21, 22, 23, 24, 25, 26, 27, 14, 11, 15, 32, 33, 34, 35, 36, 62, 63, 64, 65, 66, 67, 68, 69, 70, 71] (by decide +kernel) (by decide +kernel)
set_option maxRecDepth 20000 in
theorem gX3_step_X3_isHeard : GoodIn wsX3_step (wsV RX3 90 RX3 yX3_isHeard wsX3_isHeard) := goodIn_app (goodIn_of _ (by decide +kernel)) ggX3_step_X3_isHeard
set_option maxRecDepth 20000 in
theorem ggX3_step_X3_quiet : GoodIn wsX3_step wsX3_quiet := goodIn_r _ [40, 41, 20, 14, 11, 15, 62, 63, 64, 65, 66] (by decide +kernel) (by decide +kernel)
set_option maxRecDepth 20000 in
theorem gX3_step_X3_quiet : GoodIn wsX3_step (wsV RX3 73 RX3 yX3_quiet wsX3_quiet) := goodIn_app (goodIn_of _ (by decide +kernel)) ggX3_step_X3_quiet
set_option maxRecDepth 20000 in
theorem ggX3_step_X3_setQuiet : GoodIn wsX3_step wsX3_setQuiet := goodIn_r _ [45, 41, 46, 47, 11, 48, 62, 63, 64, 65, 66] (by decide +kernel) (by decide +kernel)
set_option maxRecDepth 20000 in
theorem gX3_step_X3_setQuiet : GoodIn wsX3_step (wsV RX3 70 RX3 yX3_setQuiet wsX3_setQuiet) := goodIn_app (goodIn_of _ (by decide +kernel)) ggX3_step_X3_setQuiet
set_option maxRecDepth 20000 in
theorem ggX3_step_X3_turnRound : GoodIn wsX3_step wsX3_turnRound := goodIn_r _ [52, 53, 8, 1, 9, 10, 11, 12, 13, 14, 15, 16, 17, 18, 6, 19, 20, 21, 22, 23, 24, 25, 26, 27, 37, 38, 39, 40, 41, 54, 55, 56, 57, 58, 59, 60, 61, 42, 43, 44, 45, 46, 47, 48, 62, 63, 64, 65, 66, 67, 68, 69, 70, 71] (by decide +kernel) (by decide +kernel)
set_option maxRecDepth 20000 in
theorem gX3_step_X3_turnRound : GoodIn wsX3_step (wsV RX3 94 RX3 yX3_turnRound wsX3_turnRound) := goodIn_app (goodIn_of _ (by decide +kernel)) ggX3_step_X3_turnRound
theorem dX3_step_0 : decode cX3_step 0 = .ok (.aload_n 0, 1) := by decide +kernel
theorem dX3_step_1 : decode cX3_step 1 = .ok (.invokevirtual 47, 3) := by decide +kernel
theorem dX3_step_4 : decode cX3_step 4 = .ok (.iconst 1, 1) := by decide +kernel
theorem dX3_step_5 : decode cX3_step 5 = .ok (.isub, 1) := by decide +kernel
theorem dX3_step_6 : decode cX3_step 6 = .ok (.istore_n 2, 1) := by decide +kernel
theorem dX3_step_7 : decode cX3_step 7 = .ok (.iconst 0, 1) := by decide +kernel
theorem dX3_step_8 : decode cX3_step 8 = .ok (.istore_n 3, 1) := by decide +kernel
theorem dX3_step_9 : decode cX3_step 9 = .ok (.iload_n 3, 1) := by decide +kernel
theorem dX3_step_10 : decode cX3_step 10 = .ok (.iload_n 2, 1) := by decide +kernel
theorem dX3_step_11 : decode cX3_step 11 = .ok (.if_icmp .ge 74, 3) := by decide +kernel
theorem dX3_step_14 : decode cX3_step 14 = .ok (.aload_n 0, 1) := by decide +kernel
theorem dX3_step_15 : decode cX3_step 15 = .ok (.iload_n 3, 1) := by decide +kernel
theorem dX3_step_16 : decode cX3_step 16 = .ok (.invokevirtual 49, 3) := by decide +kernel
theorem dX3_step_19 : decode cX3_step 19 = .ok (.istore 4, 2) := by decide +kernel
theorem dX3_step_21 : decode cX3_step 21 = .ok (.aload_n 0, 1) := by decide +kernel
theorem dX3_step_22 : decode cX3_step 22 = .ok (.getfield 24, 3) := by decide +kernel
theorem dX3_step_25 : decode cX3_step 25 = .ok (.iload 4, 2) := by decide +kernel
theorem dX3_step_27 : decode cX3_step 27 = .ok (.invokevirtual 87, 3) := by decide +kernel
theorem dX3_step_30 : decode cX3_step 30 = .ok (.iconst 1, 1) := by decide +kernel
theorem dX3_step_31 : decode cX3_step 31 = .ok (.if_icmp .eq 22, 3) := by decide +kernel
theorem dX3_step_34 : decode cX3_step 34 = .ok (.aload_n 0, 1) := by decide +kernel
theorem dX3_step_35 : decode cX3_step 35 = .ok (.aload_n 0, 1) := by decide +kernel
theorem dX3_step_36 : decode cX3_step 36 = .ok (.iload_n 3, 1) := by decide +kernel
theorem dX3_step_37 : decode cX3_step 37 = .ok (.iconst 1, 1) := by decide +kernel
theorem dX3_step_38 : decode cX3_step 38 = .ok (.iadd, 1) := by decide +kernel
theorem dX3_step_39 : decode cX3_step 39 = .ok (.invokevirtual 49, 3) := by decide +kernel
theorem dX3_step_42 : decode cX3_step 42 = .ok (.iload_n 1, 1) := by decide +kernel
theorem dX3_step_43 : decode cX3_step 43 = .ok (.invokevirtual 90, 3) := by decide +kernel
theorem dX3_step_46 : decode cX3_step 46 = .ok (.ifCond .eq 7, 3) := by decide +kernel
theorem dX3_step_49 : decode cX3_step 49 = .ok (.iconst 1, 1) := by decide +kernel
theorem dX3_step_50 : decode cX3_step 50 = .ok (.goto 4, 3) := by decide +kernel
theorem dX3_step_53 : decode cX3_step 53 = .ok (.iconst 0, 1) := by decide +kernel
theorem dX3_step_54 : decode cX3_step 54 = .ok (.istore 5, 2) := by decide +kernel
theorem dX3_step_56 : decode cX3_step 56 = .ok (.aload_n 0, 1) := by decide +kernel
theorem dX3_step_57 : decode cX3_step 57 = .ok (.iload 4, 2) := by decide +kernel
theorem dX3_step_59 : decode cX3_step 59 = .ok (.iload 5, 2) := by decide +kernel
theorem dX3_step_61 : decode cX3_step 61 = .ok (.ifCond .eq 7, 3) := by decide +kernel
theorem dX3_step_64 : decode cX3_step 64 = .ok (.iconst 0, 1) := by decide +kernel
theorem dX3_step_65 : decode cX3_step 65 = .ok (.goto 11, 3) := by decide +kernel
theorem dX3_step_68 : decode cX3_step 68 = .ok (.aload_n 0, 1) := by decide +kernel
theorem dX3_step_69 : decode cX3_step 69 = .ok (.iload 4, 2) := by decide +kernel
theorem dX3_step_71 : decode cX3_step 71 = .ok (.invokevirtual 73, 3) := by decide +kernel
theorem dX3_step_74 : decode cX3_step 74 = .ok (.iconst 1, 1) := by decide +kernel
theorem dX3_step_75 : decode cX3_step 75 = .ok (.iadd, 1) := by decide +kernel
theorem dX3_step_76 : decode cX3_step 76 = .ok (.invokevirtual 70, 3) := by decide +kernel
theorem dX3_step_79 : decode cX3_step 79 = .ok (.iinc 3 1, 3) := by decide +kernel
theorem dX3_step_82 : decode cX3_step 82 = .ok (.goto (-73), 3) := by decide +kernel
theorem dX3_step_85 : decode cX3_step 85 = .ok (.aload_n 0, 1) := by decide +kernel
theorem dX3_step_86 : decode cX3_step 86 = .ok (.invokevirtual 94, 3) := by decide +kernel
theorem dX3_step_89 : decode cX3_step 89 = .ok (.istore_n 3, 1) := by decide +kernel
theorem dX3_step_90 : decode cX3_step 90 = .ok (.aload_n 0, 1) := by decide +kernel
theorem dX3_step_91 : decode cX3_step 91 = .ok (.dup, 1) := by decide +kernel
theorem dX3_step_92 : decode cX3_step 92 = .ok (.getfield 18, 3) := by decide +kernel
theorem dX3_step_95 : decode cX3_step 95 = .ok (.iconst 1, 1) := by decide +kernel
theorem dX3_step_96 : decode cX3_step 96 = .ok (.iadd, 1) := by decide +kernel
theorem dX3_step_97 : decode cX3_step 97 = .ok (.putfield 18, 3) := by decide +kernel
theorem dX3_step_100 : decode cX3_step 100 = .ok (.iload_n 3, 1) := by decide +kernel
theorem dX3_step_101 : decode cX3_step 101 = .ok (.ireturn, 1) := by decide +kernel
set_option maxRecDepth 20000 in
theorem ggX3_isHeard_X1_kind : GoodIn wsX3_isHeard wsX1_kind := goodIn_r _ [7, 8, 9, 10, 11, 12, 23, 24, 25, 26, 27] (by decide +kernel) (by decide +kernel)
set_option maxRecDepth 20000 in
theorem gX3_isHeard_X1_kind : GoodIn wsX3_isHeard (wsV RX3 87 RX1 yX1_kind wsX1_kind) := goodIn_app (goodIn_of _ (by decide +kernel)) ggX3_isHeard_X1_kind
set_option maxRecDepth 20000 in
theorem ggX3_isHeard_X1_water : GoodIn wsX3_isHeard wsX1_water := goodIn_r _ [16, 17, 23, 24, 25, 26, 27] (by decide +kernel) (by decide +kernel)
set_option maxRecDepth 20000 in
theorem gX3_isHeard_X1_water : GoodIn wsX3_isHeard (wsV RX3 97 RX1 yX1_water wsX1_water) := goodIn_app (goodIn_of _ (by decide +kernel)) ggX3_isHeard_X1_water
theorem dX3_isHeard_0 : decode cX3_isHeard 0 = .ok (.aload_n 0, 1) := by decide +kernel
theorem dX3_isHeard_1 : decode cX3_isHeard 1 = .ok (.getfield 24, 3) := by decide +kernel
theorem dX3_isHeard_4 : decode cX3_isHeard 4 = .ok (.iload_n 1, 1) := by decide +kernel
theorem dX3_isHeard_5 : decode cX3_isHeard 5 = .ok (.invokevirtual 87, 3) := by decide +kernel
theorem dX3_isHeard_8 : decode cX3_isHeard 8 = .ok (.istore_n 3, 1) := by decide +kernel
theorem dX3_isHeard_9 : decode cX3_isHeard 9 = .ok (.iload_n 2, 1) := by decide +kernel
theorem dX3_isHeard_10 : decode cX3_isHeard 10 = .ok (.iload_n 1, 1) := by decide +kernel
theorem dX3_isHeard_11 : decode cX3_isHeard 11 = .ok (.ishr, 1) := by decide +kernel
theorem dX3_isHeard_12 : decode cX3_isHeard 12 = .ok (.iconst 1, 1) := by decide +kernel
theorem dX3_isHeard_13 : decode cX3_isHeard 13 = .ok (.iand, 1) := by decide +kernel
theorem dX3_isHeard_14 : decode cX3_isHeard 14 = .ok (.iconst 1, 1) := by decide +kernel
theorem dX3_isHeard_15 : decode cX3_isHeard 15 = .ok (.if_icmp .ne 7, 3) := by decide +kernel
theorem dX3_isHeard_18 : decode cX3_isHeard 18 = .ok (.iconst 1, 1) := by decide +kernel
theorem dX3_isHeard_19 : decode cX3_isHeard 19 = .ok (.goto 4, 3) := by decide +kernel
theorem dX3_isHeard_22 : decode cX3_isHeard 22 = .ok (.iconst 0, 1) := by decide +kernel
theorem dX3_isHeard_23 : decode cX3_isHeard 23 = .ok (.istore 4, 2) := by decide +kernel
theorem dX3_isHeard_25 : decode cX3_isHeard 25 = .ok (.iload_n 3, 1) := by decide +kernel
theorem dX3_isHeard_26 : decode cX3_isHeard 26 = .ok (.iconst 3, 1) := by decide +kernel
theorem dX3_isHeard_27 : decode cX3_isHeard 27 = .ok (.if_icmp .ne 16, 3) := by decide +kernel
theorem dX3_isHeard_30 : decode cX3_isHeard 30 = .ok (.aload_n 0, 1) := by decide +kernel
theorem dX3_isHeard_31 : decode cX3_isHeard 31 = .ok (.getfield 18, 3) := by decide +kernel
theorem dX3_isHeard_34 : decode cX3_isHeard 34 = .ok (.iconst 2, 1) := by decide +kernel
theorem dX3_isHeard_35 : decode cX3_isHeard 35 = .ok (.irem, 1) := by decide +kernel
theorem dX3_isHeard_36 : decode cX3_isHeard 36 = .ok (.ifCond .eq 7, 3) := by decide +kernel
theorem dX3_isHeard_39 : decode cX3_isHeard 39 = .ok (.iconst 1, 1) := by decide +kernel
theorem dX3_isHeard_40 : decode cX3_isHeard 40 = .ok (.goto 4, 3) := by decide +kernel
theorem dX3_isHeard_43 : decode cX3_isHeard 43 = .ok (.iconst 0, 1) := by decide +kernel
theorem dX3_isHeard_44 : decode cX3_isHeard 44 = .ok (.istore 5, 2) := by decide +kernel
theorem dX3_isHeard_46 : decode cX3_isHeard 46 = .ok (.aload_n 0, 1) := by decide +kernel
theorem dX3_isHeard_47 : decode cX3_isHeard 47 = .ok (.getfield 18, 3) := by decide +kernel
theorem dX3_isHeard_50 : decode cX3_isHeard 50 = .ok (.aload_n 0, 1) := by decide +kernel
theorem dX3_isHeard_51 : decode cX3_isHeard 51 = .ok (.getfield 24, 3) := by decide +kernel
theorem dX3_isHeard_54 : decode cX3_isHeard 54 = .ok (.invokevirtual 97, 3) := by decide +kernel
theorem dX3_isHeard_57 : decode cX3_isHeard 57 = .ok (.if_icmp .eq 18, 3) := by decide +kernel
theorem dX3_isHeard_60 : decode cX3_isHeard 60 = .ok (.iload_n 3, 1) := by decide +kernel
theorem dX3_isHeard_61 : decode cX3_isHeard 61 = .ok (.iconst 2, 1) := by decide +kernel
theorem dX3_isHeard_62 : decode cX3_isHeard 62 = .ok (.if_icmp .eq 13, 3) := by decide +kernel
theorem dX3_isHeard_65 : decode cX3_isHeard 65 = .ok (.iload 4, 2) := by decide +kernel
theorem dX3_isHeard_67 : decode cX3_isHeard 67 = .ok (.ifCond .eq 12, 3) := by decide +kernel
theorem dX3_isHeard_70 : decode cX3_isHeard 70 = .ok (.iload 5, 2) := by decide +kernel
theorem dX3_isHeard_72 : decode cX3_isHeard 72 = .ok (.ifCond .ne 7, 3) := by decide +kernel
theorem dX3_isHeard_75 : decode cX3_isHeard 75 = .ok (.iconst 1, 1) := by decide +kernel
theorem dX3_isHeard_76 : decode cX3_isHeard 76 = .ok (.goto 4, 3) := by decide +kernel
theorem dX3_isHeard_79 : decode cX3_isHeard 79 = .ok (.iconst 0, 1) := by decide +kernel
theorem dX3_isHeard_80 : decode cX3_isHeard 80 = .ok (.ireturn, 1) := by decide +kernel
set_option maxRecDepth 20000 in
theorem ggX3_turnRound_X0_size : GoodIn wsX3_turnRound wsX0_size := goodIn_r _ [7, 8, 9, 6, 10] (by decide +kernel) (by decide +kernel)
set_option maxRecDepth 20000 in
theorem gX3_turnRound_X0_size : GoodIn wsX3_turnRound (va_wsS RX3 28 yX0_size wsX0_size) := goodIn_app (goodIn_of _ (by decide +kernel)) ggX3_turnRound_X0_size
set_option maxRecDepth 20000 in
theorem ggX3_turnRound_X3_walkerAt : GoodIn wsX3_turnRound wsX3_walkerAt := goodIn_r _ [15, 2, 16, 9, 6, 10, 44, 45, 46, 47, 48] (by decide +kernel) (by decide +kernel)
set_option maxRecDepth 20000 in
theorem gX3_turnRound_X3_walkerAt : GoodIn wsX3_turnRound (wsV RX3 49 RX3 yX3_walkerAt wsX3_walkerAt) := goodIn_app (goodIn_of _ (by decide +kernel)) ggX3_turnRound_X3_walkerAt
set_option maxRecDepth 20000 in
theorem ggX3_turnRound_X1_kind : GoodIn wsX3_turnRound wsX1_kind := goodIn_r _ [21, 22, 23, 9, 6, 10, 49, 50, 51, 52, 53] (by decide +kernel) (by decide +kernel)
set_option maxRecDepth 20000 in
theorem gX3_turnRound_X1_kind : GoodIn wsX3_turnRound (wsV RX3 87 RX1 yX1_kind wsX1_kind) := goodIn_app (goodIn_of _ (by decide +kernel)) ggX3_turnRound_X1_kind
set_option maxRecDepth 20000 in
theorem ggX3_turnRound_X3_quiet : GoodIn wsX3_turnRound wsX3_quiet := goodIn_r _ [27, 28, 16, 9, 6, 10, 44, 45, 46, 47, 48] (by decide +kernel) (by decide +kernel)
set_option maxRecDepth 20000 in
theorem gX3_turnRound_X3_quiet : GoodIn wsX3_turnRound (wsV RX3 73 RX3 yX3_quiet wsX3_quiet) := goodIn_app (goodIn_of _ (by decide +kernel)) ggX3_turnRound_X3_quiet
set_option maxRecDepth 20000 in
theorem ggX3_turnRound_X1_nerve : GoodIn wsX3_turnRound wsX1_nerve := goodIn_r _ [32, 33, 23, 9, 6, 10, 49, 50, 51, 52, 53] (by decide +kernel) (by decide +kernel)
set_option maxRecDepth 20000 in
theorem gX3_turnRound_X1_nerve : GoodIn wsX3_turnRound (wsV RX3 100 RX1 yX1_nerve wsX1_nerve) := goodIn_app (goodIn_of _ (by decide +kernel)) ggX3_turnRound_X1_nerve
set_option maxRecDepth 20000 in
theorem ggX3_turnRound_X0_without : GoodIn wsX3_turnRound wsX0_without := goodIn_r _ [36] (by decide +kernel) (by decide +kernel)
set_option maxRecDepth 20000 in
theorem gX3_turnRound_X0_without : GoodIn wsX3_turnRound (va_wsS RX3 103 yX0_without wsX0_without) := goodIn_app (goodIn_of _ (by decide +kernel)) ggX3_turnRound_X0_without
set_option maxRecDepth 20000 in
theorem ggX3_turnRound_X3_setQuiet : GoodIn wsX3_turnRound wsX3_setQuiet := goodIn_r _ [40, 28, 41, 42, 6, 43, 44, 45, 46, 47, 48] (by decide +kernel) (by decide +kernel)
set_option maxRecDepth 20000 in
theorem gX3_turnRound_X3_setQuiet : GoodIn wsX3_turnRound (wsV RX3 70 RX3 yX3_setQuiet wsX3_setQuiet) := goodIn_app (goodIn_of _ (by decide +kernel)) ggX3_turnRound_X3_setQuiet
theorem dX3_turnRound_0 : decode cX3_turnRound 0 = .ok (.aload_n 0, 1) := by decide +kernel
theorem dX3_turnRound_1 : decode cX3_turnRound 1 = .ok (.iconst 0, 1) := by decide +kernel
theorem dX3_turnRound_2 : decode cX3_turnRound 2 = .ok (.putfield 21, 3) := by decide +kernel
theorem dX3_turnRound_5 : decode cX3_turnRound 5 = .ok (.iconst 0, 1) := by decide +kernel
theorem dX3_turnRound_6 : decode cX3_turnRound 6 = .ok (.istore_n 1, 1) := by decide +kernel
theorem dX3_turnRound_7 : decode cX3_turnRound 7 = .ok (.iconst 0, 1) := by decide +kernel
theorem dX3_turnRound_8 : decode cX3_turnRound 8 = .ok (.istore_n 2, 1) := by decide +kernel
theorem dX3_turnRound_9 : decode cX3_turnRound 9 = .ok (.iload_n 2, 1) := by decide +kernel
theorem dX3_turnRound_10 : decode cX3_turnRound 10 = .ok (.iconst 1, 1) := by decide +kernel
theorem dX3_turnRound_11 : decode cX3_turnRound 11 = .ok (.iadd, 1) := by decide +kernel
theorem dX3_turnRound_12 : decode cX3_turnRound 12 = .ok (.aload_n 0, 1) := by decide +kernel
theorem dX3_turnRound_13 : decode cX3_turnRound 13 = .ok (.getfield 11, 3) := by decide +kernel
theorem dX3_turnRound_16 : decode cX3_turnRound 16 = .ok (.invokestatic 28, 3) := by decide +kernel
theorem dX3_turnRound_19 : decode cX3_turnRound 19 = .ok (.if_icmp .ge 87, 3) := by decide +kernel
theorem dX3_turnRound_22 : decode cX3_turnRound 22 = .ok (.aload_n 0, 1) := by decide +kernel
theorem dX3_turnRound_23 : decode cX3_turnRound 23 = .ok (.iload_n 2, 1) := by decide +kernel
theorem dX3_turnRound_24 : decode cX3_turnRound 24 = .ok (.invokevirtual 49, 3) := by decide +kernel
theorem dX3_turnRound_27 : decode cX3_turnRound 27 = .ok (.istore_n 3, 1) := by decide +kernel
theorem dX3_turnRound_28 : decode cX3_turnRound 28 = .ok (.aload_n 0, 1) := by decide +kernel
theorem dX3_turnRound_29 : decode cX3_turnRound 29 = .ok (.getfield 24, 3) := by decide +kernel
theorem dX3_turnRound_32 : decode cX3_turnRound 32 = .ok (.iload_n 3, 1) := by decide +kernel
theorem dX3_turnRound_33 : decode cX3_turnRound 33 = .ok (.invokevirtual 87, 3) := by decide +kernel
theorem dX3_turnRound_36 : decode cX3_turnRound 36 = .ok (.iconst 1, 1) := by decide +kernel
theorem dX3_turnRound_37 : decode cX3_turnRound 37 = .ok (.if_icmp .eq 63, 3) := by decide +kernel
theorem dX3_turnRound_40 : decode cX3_turnRound 40 = .ok (.aload_n 0, 1) := by decide +kernel
theorem dX3_turnRound_41 : decode cX3_turnRound 41 = .ok (.iload_n 3, 1) := by decide +kernel
theorem dX3_turnRound_42 : decode cX3_turnRound 42 = .ok (.invokevirtual 73, 3) := by decide +kernel
theorem dX3_turnRound_45 : decode cX3_turnRound 45 = .ok (.aload_n 0, 1) := by decide +kernel
theorem dX3_turnRound_46 : decode cX3_turnRound 46 = .ok (.getfield 24, 3) := by decide +kernel
theorem dX3_turnRound_49 : decode cX3_turnRound 49 = .ok (.iload_n 3, 1) := by decide +kernel
theorem dX3_turnRound_50 : decode cX3_turnRound 50 = .ok (.invokevirtual 100, 3) := by decide +kernel
theorem dX3_turnRound_53 : decode cX3_turnRound 53 = .ok (.if_icmp .le 47, 3) := by decide +kernel
theorem dX3_turnRound_56 : decode cX3_turnRound 56 = .ok (.aload_n 0, 1) := by decide +kernel
theorem dX3_turnRound_57 : decode cX3_turnRound 57 = .ok (.dup, 1) := by decide +kernel
theorem dX3_turnRound_58 : decode cX3_turnRound 58 = .ok (.getfield 21, 3) := by decide +kernel
theorem dX3_turnRound_61 : decode cX3_turnRound 61 = .ok (.iconst 1, 1) := by decide +kernel
theorem dX3_turnRound_62 : decode cX3_turnRound 62 = .ok (.iload_n 3, 1) := by decide +kernel
theorem dX3_turnRound_63 : decode cX3_turnRound 63 = .ok (.ishl, 1) := by decide +kernel
theorem dX3_turnRound_64 : decode cX3_turnRound 64 = .ok (.ior, 1) := by decide +kernel
theorem dX3_turnRound_65 : decode cX3_turnRound 65 = .ok (.putfield 21, 3) := by decide +kernel
theorem dX3_turnRound_68 : decode cX3_turnRound 68 = .ok (.iload_n 1, 1) := by decide +kernel
theorem dX3_turnRound_69 : decode cX3_turnRound 69 = .ok (.iconst 1, 1) := by decide +kernel
theorem dX3_turnRound_70 : decode cX3_turnRound 70 = .ok (.aload_n 0, 1) := by decide +kernel
theorem dX3_turnRound_71 : decode cX3_turnRound 71 = .ok (.iload_n 2, 1) := by decide +kernel
theorem dX3_turnRound_72 : decode cX3_turnRound 72 = .ok (.iconst 1, 1) := by decide +kernel
theorem dX3_turnRound_73 : decode cX3_turnRound 73 = .ok (.iadd, 1) := by decide +kernel
theorem dX3_turnRound_74 : decode cX3_turnRound 74 = .ok (.invokevirtual 49, 3) := by decide +kernel
theorem dX3_turnRound_77 : decode cX3_turnRound 77 = .ok (.ishl, 1) := by decide +kernel
theorem dX3_turnRound_78 : decode cX3_turnRound 78 = .ok (.ior, 1) := by decide +kernel
theorem dX3_turnRound_79 : decode cX3_turnRound 79 = .ok (.istore_n 1, 1) := by decide +kernel
theorem dX3_turnRound_80 : decode cX3_turnRound 80 = .ok (.aload_n 0, 1) := by decide +kernel
theorem dX3_turnRound_81 : decode cX3_turnRound 81 = .ok (.aload_n 0, 1) := by decide +kernel
theorem dX3_turnRound_82 : decode cX3_turnRound 82 = .ok (.getfield 11, 3) := by decide +kernel
theorem dX3_turnRound_85 : decode cX3_turnRound 85 = .ok (.iload_n 2, 1) := by decide +kernel
theorem dX3_turnRound_86 : decode cX3_turnRound 86 = .ok (.iconst 1, 1) := by decide +kernel
theorem dX3_turnRound_87 : decode cX3_turnRound 87 = .ok (.iadd, 1) := by decide +kernel
theorem dX3_turnRound_88 : decode cX3_turnRound 88 = .ok (.invokestatic 103, 3) := by decide +kernel
theorem dX3_turnRound_91 : decode cX3_turnRound 91 = .ok (.putfield 11, 3) := by decide +kernel
theorem dX3_turnRound_94 : decode cX3_turnRound 94 = .ok (.aload_n 0, 1) := by decide +kernel
theorem dX3_turnRound_95 : decode cX3_turnRound 95 = .ok (.iload_n 3, 1) := by decide +kernel
theorem dX3_turnRound_96 : decode cX3_turnRound 96 = .ok (.iconst 0, 1) := by decide +kernel
theorem dX3_turnRound_97 : decode cX3_turnRound 97 = .ok (.invokevirtual 70, 3) := by decide +kernel
theorem dX3_turnRound_100 : decode cX3_turnRound 100 = .ok (.iinc 2 1, 3) := by decide +kernel
theorem dX3_turnRound_103 : decode cX3_turnRound 103 = .ok (.goto (-94), 3) := by decide +kernel
theorem dX3_turnRound_106 : decode cX3_turnRound 106 = .ok (.iload_n 1, 1) := by decide +kernel
theorem dX3_turnRound_107 : decode cX3_turnRound 107 = .ok (.ireturn, 1) := by decide +kernel
set_option maxRecDepth 20000 in
theorem ggX3_walkerAt_X0_at : GoodIn wsX3_walkerAt wsX0_at := goodIn_r _ [5] (by decide +kernel) (by decide +kernel)
set_option maxRecDepth 20000 in
theorem gX3_walkerAt_X0_at : GoodIn wsX3_walkerAt (va_wsS RX3 43 yX0_at wsX0_at) := goodIn_app (goodIn_of _ (by decide +kernel)) ggX3_walkerAt_X0_at
theorem dX3_walkerAt_0 : decode cX3_walkerAt 0 = .ok (.aload_n 0, 1) := by decide +kernel
theorem dX3_walkerAt_1 : decode cX3_walkerAt 1 = .ok (.getfield 11, 3) := by decide +kernel
theorem dX3_walkerAt_4 : decode cX3_walkerAt 4 = .ok (.iload_n 1, 1) := by decide +kernel
theorem dX3_walkerAt_5 : decode cX3_walkerAt 5 = .ok (.invokestatic 43, 3) := by decide +kernel
theorem dX3_walkerAt_8 : decode cX3_walkerAt 8 = .ok (.iconst 1, 1) := by decide +kernel
theorem dX3_walkerAt_9 : decode cX3_walkerAt 9 = .ok (.isub, 1) := by decide +kernel
theorem dX3_walkerAt_10 : decode cX3_walkerAt 10 = .ok (.ireturn, 1) := by decide +kernel
set_option maxRecDepth 20000 in
theorem ggX3_setQuiet_X0_with : GoodIn wsX3_setQuiet wsX0_with := goodIn_r _ [5] (by decide +kernel) (by decide +kernel)
set_option maxRecDepth 20000 in
theorem gX3_setQuiet_X0_with : GoodIn wsX3_setQuiet (va_wsS RX3 106 yX0_with wsX0_with) := goodIn_app (goodIn_of _ (by decide +kernel)) ggX3_setQuiet_X0_with
theorem dX3_setQuiet_0 : decode cX3_setQuiet 0 = .ok (.aload_n 0, 1) := by decide +kernel
theorem dX3_setQuiet_1 : decode cX3_setQuiet 1 = .ok (.aload_n 0, 1) := by decide +kernel
theorem dX3_setQuiet_2 : decode cX3_setQuiet 2 = .ok (.getfield 15, 3) := by decide +kernel
theorem dX3_setQuiet_5 : decode cX3_setQuiet 5 = .ok (.iload_n 1, 1) := by decide +kernel
theorem dX3_setQuiet_6 : decode cX3_setQuiet 6 = .ok (.iload_n 2, 1) := by decide +kernel
theorem dX3_setQuiet_7 : decode cX3_setQuiet 7 = .ok (.invokestatic 106, 3) := by decide +kernel
theorem dX3_setQuiet_10 : decode cX3_setQuiet 10 = .ok (.putfield 15, 3) := by decide +kernel
theorem dX3_setQuiet_13 : decode cX3_setQuiet 13 = .ok (.return_, 1) := by decide +kernel
theorem dX3_treadsOf_0 : decode cX3_treadsOf 0 = .ok (.lload_n 0, 1) := by decide +kernel
theorem dX3_treadsOf_1 : decode cX3_treadsOf 1 = .ok (.lstore_n 3, 1) := by decide +kernel
theorem dX3_treadsOf_2 : decode cX3_treadsOf 2 = .ok (.iconst 0, 1) := by decide +kernel
theorem dX3_treadsOf_3 : decode cX3_treadsOf 3 = .ok (.istore 5, 2) := by decide +kernel
theorem dX3_treadsOf_5 : decode cX3_treadsOf 5 = .ok (.iload 5, 2) := by decide +kernel
theorem dX3_treadsOf_7 : decode cX3_treadsOf 7 = .ok (.iload_n 2, 1) := by decide +kernel
theorem dX3_treadsOf_8 : decode cX3_treadsOf 8 = .ok (.if_icmp .ge 15, 3) := by decide +kernel
theorem dX3_treadsOf_11 : decode cX3_treadsOf 11 = .ok (.lload_n 3, 1) := by decide +kernel
theorem dX3_treadsOf_12 : decode cX3_treadsOf 12 = .ok (.ldc2_w 109, 3) := by decide +kernel
theorem dX3_treadsOf_15 : decode cX3_treadsOf 15 = .ok (.ldiv, 1) := by decide +kernel
theorem dX3_treadsOf_16 : decode cX3_treadsOf 16 = .ok (.lstore_n 3, 1) := by decide +kernel
theorem dX3_treadsOf_17 : decode cX3_treadsOf 17 = .ok (.iinc 5 1, 3) := by decide +kernel
theorem dX3_treadsOf_20 : decode cX3_treadsOf 20 = .ok (.goto (-15), 3) := by decide +kernel
theorem dX3_treadsOf_23 : decode cX3_treadsOf 23 = .ok (.lload_n 3, 1) := by decide +kernel
theorem dX3_treadsOf_24 : decode cX3_treadsOf 24 = .ok (.ldc2_w 109, 3) := by decide +kernel
theorem dX3_treadsOf_27 : decode cX3_treadsOf 27 = .ok (.lrem, 1) := by decide +kernel
theorem dX3_treadsOf_28 : decode cX3_treadsOf 28 = .ok (.l2i, 1) := by decide +kernel
theorem dX3_treadsOf_29 : decode cX3_treadsOf 29 = .ok (.ireturn, 1) := by decide +kernel
