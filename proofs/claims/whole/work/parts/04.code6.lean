theorem dX6_init_0 : decode cX6_init 0 = .ok (.aload_n 0, 1) := by decide +kernel
theorem dX6_init_1 : decode cX6_init 1 = .ok (.invokespecial 1, 3) := by decide +kernel
theorem dX6_init_4 : decode cX6_init 4 = .ok (.aload_n 0, 1) := by decide +kernel
theorem dX6_init_5 : decode cX6_init 5 = .ok (.bipush 48, 2) := by decide +kernel
theorem dX6_init_7 : decode cX6_init 7 = .ok (.newarray .int, 2) := by decide +kernel
theorem dX6_init_9 : decode cX6_init 9 = .ok (.putfield 7, 3) := by decide +kernel
theorem dX6_init_12 : decode cX6_init 12 = .ok (.aload_n 0, 1) := by decide +kernel
theorem dX6_init_13 : decode cX6_init 13 = .ok (.iconst 3, 1) := by decide +kernel
theorem dX6_init_14 : decode cX6_init 14 = .ok (.newarray .int, 2) := by decide +kernel
theorem dX6_init_16 : decode cX6_init 16 = .ok (.putfield 13, 3) := by decide +kernel
theorem dX6_init_19 : decode cX6_init 19 = .ok (.aload_n 0, 1) := by decide +kernel
theorem dX6_init_20 : decode cX6_init 20 = .ok (.bipush 6, 2) := by decide +kernel
theorem dX6_init_22 : decode cX6_init 22 = .ok (.newarray .int, 2) := by decide +kernel
theorem dX6_init_24 : decode cX6_init 24 = .ok (.putfield 16, 3) := by decide +kernel
theorem dX6_init_27 : decode cX6_init 27 = .ok (.aload_n 0, 1) := by decide +kernel
theorem dX6_init_28 : decode cX6_init 28 = .ok (.bipush 18, 2) := by decide +kernel
theorem dX6_init_30 : decode cX6_init 30 = .ok (.newarray .int, 2) := by decide +kernel
theorem dX6_init_32 : decode cX6_init 32 = .ok (.putfield 19, 3) := by decide +kernel
theorem dX6_init_35 : decode cX6_init 35 = .ok (.aload_n 0, 1) := by decide +kernel
theorem dX6_init_36 : decode cX6_init 36 = .ok (.bipush 33, 2) := by decide +kernel
theorem dX6_init_38 : decode cX6_init 38 = .ok (.newarray .int, 2) := by decide +kernel
theorem dX6_init_40 : decode cX6_init 40 = .ok (.putfield 22, 3) := by decide +kernel
theorem dX6_init_43 : decode cX6_init 43 = .ok (.aload_n 0, 1) := by decide +kernel
theorem dX6_init_44 : decode cX6_init 44 = .ok (.bipush 33, 2) := by decide +kernel
theorem dX6_init_46 : decode cX6_init 46 = .ok (.newarray .int, 2) := by decide +kernel
theorem dX6_init_48 : decode cX6_init 48 = .ok (.putfield 25, 3) := by decide +kernel
theorem dX6_init_51 : decode cX6_init 51 = .ok (.aload_n 0, 1) := by decide +kernel
theorem dX6_init_52 : decode cX6_init 52 = .ok (.sipush 462, 3) := by decide +kernel
theorem dX6_init_55 : decode cX6_init 55 = .ok (.newarray .int, 2) := by decide +kernel
theorem dX6_init_57 : decode cX6_init 57 = .ok (.putfield 28, 3) := by decide +kernel
theorem dX6_init_60 : decode cX6_init 60 = .ok (.aload_n 0, 1) := by decide +kernel
theorem dX6_init_61 : decode cX6_init 61 = .ok (.bipush 66, 2) := by decide +kernel
theorem dX6_init_63 : decode cX6_init 63 = .ok (.newarray .int, 2) := by decide +kernel
theorem dX6_init_65 : decode cX6_init 65 = .ok (.putfield 31, 3) := by decide +kernel
theorem dX6_init_68 : decode cX6_init 68 = .ok (.aload_n 0, 1) := by decide +kernel
theorem dX6_init_69 : decode cX6_init 69 = .ok (.iconst 2, 1) := by decide +kernel
theorem dX6_init_70 : decode cX6_init 70 = .ok (.newarray .boolean, 2) := by decide +kernel
theorem dX6_init_72 : decode cX6_init 72 = .ok (.putfield 34, 3) := by decide +kernel
theorem dX6_init_75 : decode cX6_init 75 = .ok (.aload_n 0, 1) := by decide +kernel
theorem dX6_init_76 : decode cX6_init 76 = .ok (.bipush 6, 2) := by decide +kernel
theorem dX6_init_78 : decode cX6_init 78 = .ok (.newarray .int, 2) := by decide +kernel
theorem dX6_init_80 : decode cX6_init 80 = .ok (.putfield 38, 3) := by decide +kernel
theorem dX6_init_83 : decode cX6_init 83 = .ok (.aload_n 0, 1) := by decide +kernel
theorem dX6_init_84 : decode cX6_init 84 = .ok (.bipush 6, 2) := by decide +kernel
theorem dX6_init_86 : decode cX6_init 86 = .ok (.newarray .int, 2) := by decide +kernel
theorem dX6_init_88 : decode cX6_init 88 = .ok (.putfield 41, 3) := by decide +kernel
theorem dX6_init_91 : decode cX6_init 91 = .ok (.aload_n 0, 1) := by decide +kernel
theorem dX6_init_92 : decode cX6_init 92 = .ok (.bipush 6, 2) := by decide +kernel
theorem dX6_init_94 : decode cX6_init 94 = .ok (.newarray .int, 2) := by decide +kernel
theorem dX6_init_96 : decode cX6_init 96 = .ok (.putfield 44, 3) := by decide +kernel
theorem dX6_init_99 : decode cX6_init 99 = .ok (.aload_n 0, 1) := by decide +kernel
theorem dX6_init_100 : decode cX6_init 100 = .ok (.bipush 8, 2) := by decide +kernel
theorem dX6_init_102 : decode cX6_init 102 = .ok (.newarray .int, 2) := by decide +kernel
theorem dX6_init_104 : decode cX6_init 104 = .ok (.putfield 47, 3) := by decide +kernel
theorem dX6_init_107 : decode cX6_init 107 = .ok (.aload_n 0, 1) := by decide +kernel
theorem dX6_init_108 : decode cX6_init 108 = .ok (.sipush 128, 3) := by decide +kernel
theorem dX6_init_111 : decode cX6_init 111 = .ok (.newarray .int, 2) := by decide +kernel
theorem dX6_init_113 : decode cX6_init 113 = .ok (.putfield 50, 3) := by decide +kernel
theorem dX6_init_116 : decode cX6_init 116 = .ok (.return_, 1) := by decide +kernel
theorem dX6_in_0 : decode cX6_in 0 = .ok (.lload_n 0, 1) := by decide +kernel
theorem dX6_in_1 : decode cX6_in 1 = .ok (.lload_n 2, 1) := by decide +kernel
theorem dX6_in_2 : decode cX6_in 2 = .ok (.lcmp, 1) := by decide +kernel
theorem dX6_in_3 : decode cX6_in 3 = .ok (.ifCond .lt 14, 3) := by decide +kernel
theorem dX6_in_6 : decode cX6_in 6 = .ok (.lload_n 0, 1) := by decide +kernel
theorem dX6_in_7 : decode cX6_in 7 = .ok (.lload 4, 2) := by decide +kernel
theorem dX6_in_9 : decode cX6_in 9 = .ok (.lcmp, 1) := by decide +kernel
theorem dX6_in_10 : decode cX6_in 10 = .ok (.ifCond .gt 7, 3) := by decide +kernel
theorem dX6_in_13 : decode cX6_in 13 = .ok (.iconst 1, 1) := by decide +kernel
theorem dX6_in_14 : decode cX6_in 14 = .ok (.goto 4, 3) := by decide +kernel
theorem dX6_in_17 : decode cX6_in 17 = .ok (.iconst 0, 1) := by decide +kernel
theorem dX6_in_18 : decode cX6_in 18 = .ok (.ireturn, 1) := by decide +kernel
theorem dX6_has_0 : decode cX6_has 0 = .ok (.iload_n 0, 1) := by decide +kernel
theorem dX6_has_1 : decode cX6_has 1 = .ok (.iload_n 1, 1) := by decide +kernel
theorem dX6_has_2 : decode cX6_has 2 = .ok (.ishr, 1) := by decide +kernel
theorem dX6_has_3 : decode cX6_has 3 = .ok (.iconst 1, 1) := by decide +kernel
theorem dX6_has_4 : decode cX6_has 4 = .ok (.iand, 1) := by decide +kernel
theorem dX6_has_5 : decode cX6_has 5 = .ok (.iconst 1, 1) := by decide +kernel
theorem dX6_has_6 : decode cX6_has 6 = .ok (.if_icmp .ne 7, 3) := by decide +kernel
theorem dX6_has_9 : decode cX6_has 9 = .ok (.iconst 1, 1) := by decide +kernel
theorem dX6_has_10 : decode cX6_has 10 = .ok (.goto 4, 3) := by decide +kernel
theorem dX6_has_13 : decode cX6_has 13 = .ok (.iconst 0, 1) := by decide +kernel
theorem dX6_has_14 : decode cX6_has 14 = .ok (.ireturn, 1) := by decide +kernel
theorem dX6_many_0 : decode cX6_many 0 = .ok (.iconst 0, 1) := by decide +kernel
theorem dX6_many_1 : decode cX6_many 1 = .ok (.istore_n 1, 1) := by decide +kernel
theorem dX6_many_2 : decode cX6_many 2 = .ok (.iconst 0, 1) := by decide +kernel
theorem dX6_many_3 : decode cX6_many 3 = .ok (.istore_n 2, 1) := by decide +kernel
theorem dX6_many_4 : decode cX6_many 4 = .ok (.iload_n 2, 1) := by decide +kernel
theorem dX6_many_5 : decode cX6_many 5 = .ok (.bipush 7, 2) := by decide +kernel
theorem dX6_many_7 : decode cX6_many 7 = .ok (.if_icmp .ge 17, 3) := by decide +kernel
theorem dX6_many_10 : decode cX6_many 10 = .ok (.iload_n 1, 1) := by decide +kernel
theorem dX6_many_11 : decode cX6_many 11 = .ok (.iload_n 0, 1) := by decide +kernel
theorem dX6_many_12 : decode cX6_many 12 = .ok (.iload_n 2, 1) := by decide +kernel
theorem dX6_many_13 : decode cX6_many 13 = .ok (.ishr, 1) := by decide +kernel
theorem dX6_many_14 : decode cX6_many 14 = .ok (.iconst 1, 1) := by decide +kernel
theorem dX6_many_15 : decode cX6_many 15 = .ok (.iand, 1) := by decide +kernel
theorem dX6_many_16 : decode cX6_many 16 = .ok (.iadd, 1) := by decide +kernel
theorem dX6_many_17 : decode cX6_many 17 = .ok (.istore_n 1, 1) := by decide +kernel
theorem dX6_many_18 : decode cX6_many 18 = .ok (.iinc 2 1, 3) := by decide +kernel
theorem dX6_many_21 : decode cX6_many 21 = .ok (.goto (-17), 3) := by decide +kernel
theorem dX6_many_24 : decode cX6_many 24 = .ok (.iload_n 1, 1) := by decide +kernel
theorem dX6_many_25 : decode cX6_many 25 = .ok (.ireturn, 1) := by decide +kernel
set_option maxRecDepth 20000 in
theorem ggX6_noHouse_X6_in : GoodIn wsX6_noHouse wsX6_in := goodIn_r _ [5] (by decide +kernel) (by decide +kernel)
set_option maxRecDepth 20000 in
theorem gX6_noHouse_X6_in : GoodIn wsX6_noHouse (va_wsS RX6 60 yX6_in wsX6_in) := goodIn_app (goodIn_of _ (by decide +kernel)) ggX6_noHouse_X6_in
theorem dX6_noHouse_0 : decode cX6_noHouse 0 = .ok (.iload_n 1, 1) := by decide +kernel
theorem dX6_noHouse_1 : decode cX6_noHouse 1 = .ok (.i2l, 1) := by decide +kernel
theorem dX6_noHouse_2 : decode cX6_noHouse 2 = .ok (.lconst 0, 1) := by decide +kernel
theorem dX6_noHouse_3 : decode cX6_noHouse 3 = .ok (.aload_n 0, 1) := by decide +kernel
theorem dX6_noHouse_4 : decode cX6_noHouse 4 = .ok (.getfield 57, 3) := by decide +kernel
theorem dX6_noHouse_7 : decode cX6_noHouse 7 = .ok (.iconst 1, 1) := by decide +kernel
theorem dX6_noHouse_8 : decode cX6_noHouse 8 = .ok (.isub, 1) := by decide +kernel
theorem dX6_noHouse_9 : decode cX6_noHouse 9 = .ok (.i2l, 1) := by decide +kernel
theorem dX6_noHouse_10 : decode cX6_noHouse 10 = .ok (.invokestatic 60, 3) := by decide +kernel
theorem dX6_noHouse_13 : decode cX6_noHouse 13 = .ok (.ifCond .ne 7, 3) := by decide +kernel
theorem dX6_noHouse_16 : decode cX6_noHouse 16 = .ok (.iconst 1, 1) := by decide +kernel
theorem dX6_noHouse_17 : decode cX6_noHouse 17 = .ok (.goto 4, 3) := by decide +kernel
theorem dX6_noHouse_20 : decode cX6_noHouse 20 = .ok (.iconst 0, 1) := by decide +kernel
theorem dX6_noHouse_21 : decode cX6_noHouse 21 = .ok (.ireturn, 1) := by decide +kernel
set_option maxRecDepth 20000 in
theorem ggX6_noChild_X6_in : GoodIn wsX6_noChild wsX6_in := goodIn_r _ [5] (by decide +kernel) (by decide +kernel)
set_option maxRecDepth 20000 in
theorem gX6_noChild_X6_in : GoodIn wsX6_noChild (va_wsS RX6 60 yX6_in wsX6_in) := goodIn_app (goodIn_of _ (by decide +kernel)) ggX6_noChild_X6_in
theorem dX6_noChild_0 : decode cX6_noChild 0 = .ok (.iload_n 1, 1) := by decide +kernel
theorem dX6_noChild_1 : decode cX6_noChild 1 = .ok (.i2l, 1) := by decide +kernel
theorem dX6_noChild_2 : decode cX6_noChild 2 = .ok (.lconst 0, 1) := by decide +kernel
theorem dX6_noChild_3 : decode cX6_noChild 3 = .ok (.aload_n 0, 1) := by decide +kernel
theorem dX6_noChild_4 : decode cX6_noChild 4 = .ok (.getfield 22, 3) := by decide +kernel
theorem dX6_noChild_7 : decode cX6_noChild 7 = .ok (.bipush 25, 2) := by decide +kernel
theorem dX6_noChild_9 : decode cX6_noChild 9 = .ok (.iaload, 1) := by decide +kernel
theorem dX6_noChild_10 : decode cX6_noChild 10 = .ok (.iconst 1, 1) := by decide +kernel
theorem dX6_noChild_11 : decode cX6_noChild 11 = .ok (.isub, 1) := by decide +kernel
theorem dX6_noChild_12 : decode cX6_noChild 12 = .ok (.i2l, 1) := by decide +kernel
theorem dX6_noChild_13 : decode cX6_noChild 13 = .ok (.invokestatic 60, 3) := by decide +kernel
theorem dX6_noChild_16 : decode cX6_noChild 16 = .ok (.ifCond .ne 7, 3) := by decide +kernel
theorem dX6_noChild_19 : decode cX6_noChild 19 = .ok (.iconst 1, 1) := by decide +kernel
theorem dX6_noChild_20 : decode cX6_noChild 20 = .ok (.goto 4, 3) := by decide +kernel
theorem dX6_noChild_23 : decode cX6_noChild 23 = .ok (.iconst 0, 1) := by decide +kernel
theorem dX6_noChild_24 : decode cX6_noChild 24 = .ok (.ireturn, 1) := by decide +kernel
set_option maxRecDepth 20000 in
theorem ggX6_write_X6_in : GoodIn wsX6_write wsX6_in := goodIn_r _ [8] (by decide +kernel) (by decide +kernel)
set_option maxRecDepth 20000 in
theorem gX6_write_X6_in : GoodIn wsX6_write (va_wsS RX6 60 yX6_in wsX6_in) := goodIn_app (goodIn_of _ (by decide +kernel)) ggX6_write_X6_in
theorem dX6_write_0 : decode cX6_write 0 = .ok (.aload_n 0, 1) := by decide +kernel
theorem dX6_write_1 : decode cX6_write 1 = .ok (.iconst 0, 1) := by decide +kernel
theorem dX6_write_2 : decode cX6_write 2 = .ok (.putfield 53, 3) := by decide +kernel
theorem dX6_write_5 : decode cX6_write 5 = .ok (.iload_n 1, 1) := by decide +kernel
theorem dX6_write_6 : decode cX6_write 6 = .ok (.i2l, 1) := by decide +kernel
theorem dX6_write_7 : decode cX6_write 7 = .ok (.lconst 0, 1) := by decide +kernel
theorem dX6_write_8 : decode cX6_write 8 = .ok (.ldc2_w 64, 3) := by decide +kernel
theorem dX6_write_11 : decode cX6_write 11 = .ok (.invokestatic 60, 3) := by decide +kernel
theorem dX6_write_14 : decode cX6_write 14 = .ok (.ifCond .ne 6, 3) := by decide +kernel
theorem dX6_write_17 : decode cX6_write 17 = .ok (.bipush (-2), 2) := by decide +kernel
theorem dX6_write_19 : decode cX6_write 19 = .ok (.ireturn, 1) := by decide +kernel
theorem dX6_write_20 : decode cX6_write 20 = .ok (.aload_n 0, 1) := by decide +kernel
theorem dX6_write_21 : decode cX6_write 21 = .ok (.getfield 66, 3) := by decide +kernel
theorem dX6_write_24 : decode cX6_write 24 = .ok (.bipush 48, 2) := by decide +kernel
theorem dX6_write_26 : decode cX6_write 26 = .ok (.if_icmp .ne 6, 3) := by decide +kernel
theorem dX6_write_29 : decode cX6_write 29 = .ok (.bipush (-4), 2) := by decide +kernel
theorem dX6_write_31 : decode cX6_write 31 = .ok (.ireturn, 1) := by decide +kernel
theorem dX6_write_32 : decode cX6_write 32 = .ok (.aload_n 0, 1) := by decide +kernel
theorem dX6_write_33 : decode cX6_write 33 = .ok (.getfield 7, 3) := by decide +kernel
theorem dX6_write_36 : decode cX6_write 36 = .ok (.aload_n 0, 1) := by decide +kernel
theorem dX6_write_37 : decode cX6_write 37 = .ok (.getfield 66, 3) := by decide +kernel
theorem dX6_write_40 : decode cX6_write 40 = .ok (.iload_n 1, 1) := by decide +kernel
theorem dX6_write_41 : decode cX6_write 41 = .ok (.iastore, 1) := by decide +kernel
theorem dX6_write_42 : decode cX6_write 42 = .ok (.aload_n 0, 1) := by decide +kernel
theorem dX6_write_43 : decode cX6_write 43 = .ok (.dup, 1) := by decide +kernel
theorem dX6_write_44 : decode cX6_write 44 = .ok (.getfield 66, 3) := by decide +kernel
theorem dX6_write_47 : decode cX6_write 47 = .ok (.iconst 1, 1) := by decide +kernel
theorem dX6_write_48 : decode cX6_write 48 = .ok (.iadd, 1) := by decide +kernel
theorem dX6_write_49 : decode cX6_write 49 = .ok (.putfield 66, 3) := by decide +kernel
theorem dX6_write_52 : decode cX6_write 52 = .ok (.aload_n 0, 1) := by decide +kernel
theorem dX6_write_53 : decode cX6_write 53 = .ok (.getfield 66, 3) := by decide +kernel
theorem dX6_write_56 : decode cX6_write 56 = .ok (.ireturn, 1) := by decide +kernel
theorem dX6_wipe_0 : decode cX6_wipe 0 = .ok (.aload_n 0, 1) := by decide +kernel
theorem dX6_wipe_1 : decode cX6_wipe 1 = .ok (.iconst 0, 1) := by decide +kernel
theorem dX6_wipe_2 : decode cX6_wipe 2 = .ok (.putfield 53, 3) := by decide +kernel
theorem dX6_wipe_5 : decode cX6_wipe 5 = .ok (.aload_n 0, 1) := by decide +kernel
theorem dX6_wipe_6 : decode cX6_wipe 6 = .ok (.getfield 66, 3) := by decide +kernel
theorem dX6_wipe_9 : decode cX6_wipe 9 = .ok (.istore_n 1, 1) := by decide +kernel
theorem dX6_wipe_10 : decode cX6_wipe 10 = .ok (.aload_n 0, 1) := by decide +kernel
theorem dX6_wipe_11 : decode cX6_wipe 11 = .ok (.iconst 0, 1) := by decide +kernel
theorem dX6_wipe_12 : decode cX6_wipe 12 = .ok (.putfield 66, 3) := by decide +kernel
theorem dX6_wipe_15 : decode cX6_wipe 15 = .ok (.iload_n 1, 1) := by decide +kernel
theorem dX6_wipe_16 : decode cX6_wipe 16 = .ok (.ireturn, 1) := by decide +kernel
set_option maxRecDepth 20000 in
theorem ggX6_figure_X6_in : GoodIn wsX6_figure wsX6_in := goodIn_r _ [7] (by decide +kernel) (by decide +kernel)
set_option maxRecDepth 20000 in
theorem gX6_figure_X6_in : GoodIn wsX6_figure (va_wsS RX6 60 yX6_in wsX6_in) := goodIn_app (goodIn_of _ (by decide +kernel)) ggX6_figure_X6_in
theorem dX6_figure_0 : decode cX6_figure 0 = .ok (.aload_n 0, 1) := by decide +kernel
theorem dX6_figure_1 : decode cX6_figure 1 = .ok (.getfield 69, 3) := by decide +kernel
theorem dX6_figure_4 : decode cX6_figure 4 = .ok (.aload_n 0, 1) := by decide +kernel
theorem dX6_figure_5 : decode cX6_figure 5 = .ok (.getfield 66, 3) := by decide +kernel
theorem dX6_figure_8 : decode cX6_figure 8 = .ok (.if_icmp .eq 26, 3) := by decide +kernel
theorem dX6_figure_11 : decode cX6_figure 11 = .ok (.aload_n 0, 1) := by decide +kernel
theorem dX6_figure_12 : decode cX6_figure 12 = .ok (.getfield 7, 3) := by decide +kernel
theorem dX6_figure_15 : decode cX6_figure 15 = .ok (.aload_n 0, 1) := by decide +kernel
theorem dX6_figure_16 : decode cX6_figure 16 = .ok (.getfield 69, 3) := by decide +kernel
theorem dX6_figure_19 : decode cX6_figure 19 = .ok (.iaload, 1) := by decide +kernel
theorem dX6_figure_20 : decode cX6_figure 20 = .ok (.bipush 48, 2) := by decide +kernel
theorem dX6_figure_22 : decode cX6_figure 22 = .ok (.isub, 1) := by decide +kernel
theorem dX6_figure_23 : decode cX6_figure 23 = .ok (.i2l, 1) := by decide +kernel
theorem dX6_figure_24 : decode cX6_figure 24 = .ok (.iload_n 1, 1) := by decide +kernel
theorem dX6_figure_25 : decode cX6_figure 25 = .ok (.i2l, 1) := by decide +kernel
theorem dX6_figure_26 : decode cX6_figure 26 = .ok (.iload_n 2, 1) := by decide +kernel
theorem dX6_figure_27 : decode cX6_figure 27 = .ok (.i2l, 1) := by decide +kernel
theorem dX6_figure_28 : decode cX6_figure 28 = .ok (.invokestatic 60, 3) := by decide +kernel
theorem dX6_figure_31 : decode cX6_figure 31 = .ok (.ifCond .ne 6, 3) := by decide +kernel
theorem dX6_figure_34 : decode cX6_figure 34 = .ok (.bipush (-9), 2) := by decide +kernel
theorem dX6_figure_36 : decode cX6_figure 36 = .ok (.ireturn, 1) := by decide +kernel
theorem dX6_figure_37 : decode cX6_figure 37 = .ok (.aload_n 0, 1) := by decide +kernel
theorem dX6_figure_38 : decode cX6_figure 38 = .ok (.dup, 1) := by decide +kernel
theorem dX6_figure_39 : decode cX6_figure 39 = .ok (.getfield 69, 3) := by decide +kernel
theorem dX6_figure_42 : decode cX6_figure 42 = .ok (.iconst 1, 1) := by decide +kernel
theorem dX6_figure_43 : decode cX6_figure 43 = .ok (.iadd, 1) := by decide +kernel
theorem dX6_figure_44 : decode cX6_figure 44 = .ok (.putfield 69, 3) := by decide +kernel
theorem dX6_figure_47 : decode cX6_figure 47 = .ok (.aload_n 0, 1) := by decide +kernel
theorem dX6_figure_48 : decode cX6_figure 48 = .ok (.getfield 7, 3) := by decide +kernel
theorem dX6_figure_51 : decode cX6_figure 51 = .ok (.aload_n 0, 1) := by decide +kernel
theorem dX6_figure_52 : decode cX6_figure 52 = .ok (.getfield 69, 3) := by decide +kernel
theorem dX6_figure_55 : decode cX6_figure 55 = .ok (.iconst 1, 1) := by decide +kernel
theorem dX6_figure_56 : decode cX6_figure 56 = .ok (.isub, 1) := by decide +kernel
theorem dX6_figure_57 : decode cX6_figure 57 = .ok (.iaload, 1) := by decide +kernel
theorem dX6_figure_58 : decode cX6_figure 58 = .ok (.bipush 48, 2) := by decide +kernel
theorem dX6_figure_60 : decode cX6_figure 60 = .ok (.isub, 1) := by decide +kernel
theorem dX6_figure_61 : decode cX6_figure 61 = .ok (.ireturn, 1) := by decide +kernel
set_option maxRecDepth 20000 in
theorem ggX6_readHouse_X6_figure : GoodIn wsX6_readHouse wsX6_figure := goodIn_r _ [7, 8, 9, 10, 11, 12, 6, 13, 14, 15, 16, 17, 18, 19, 20, 21, 22, 23, 24, 25, 26, 27, 28, 29, 30, 31, 32, 33, 34, 35, 36, 37, 38, 39, 40, 41, 42, 43, 44, 45] (by decide +kernel) (by decide +kernel)
set_option maxRecDepth 20000 in
theorem gX6_readHouse_X6_figure : GoodIn wsX6_readHouse (wsV RX6 72 RX6 yX6_figure wsX6_figure) := goodIn_app (goodIn_of _ (by decide +kernel)) ggX6_readHouse_X6_figure
theorem dX6_readHouse_0 : decode cX6_readHouse 0 = .ok (.aload_n 0, 1) := by decide +kernel
theorem dX6_readHouse_1 : decode cX6_readHouse 1 = .ok (.iconst 0, 1) := by decide +kernel
theorem dX6_readHouse_2 : decode cX6_readHouse 2 = .ok (.iconst 1, 1) := by decide +kernel
theorem dX6_readHouse_3 : decode cX6_readHouse 3 = .ok (.invokevirtual 72, 3) := by decide +kernel
theorem dX6_readHouse_6 : decode cX6_readHouse 6 = .ok (.istore_n 1, 1) := by decide +kernel
theorem dX6_readHouse_7 : decode cX6_readHouse 7 = .ok (.iload_n 1, 1) := by decide +kernel
theorem dX6_readHouse_8 : decode cX6_readHouse 8 = .ok (.bipush (-9), 2) := by decide +kernel
theorem dX6_readHouse_10 : decode cX6_readHouse 10 = .ok (.if_icmp .ne 8, 3) := by decide +kernel
theorem dX6_readHouse_13 : decode cX6_readHouse 13 = .ok (.bipush (-9), 2) := by decide +kernel
theorem dX6_readHouse_15 : decode cX6_readHouse 15 = .ok (.goto 10, 3) := by decide +kernel
theorem dX6_readHouse_18 : decode cX6_readHouse 18 = .ok (.aload_n 0, 1) := by decide +kernel
theorem dX6_readHouse_19 : decode cX6_readHouse 19 = .ok (.iconst 1, 1) := by decide +kernel
theorem dX6_readHouse_20 : decode cX6_readHouse 20 = .ok (.bipush 9, 2) := by decide +kernel
theorem dX6_readHouse_22 : decode cX6_readHouse 22 = .ok (.invokevirtual 72, 3) := by decide +kernel
theorem dX6_readHouse_25 : decode cX6_readHouse 25 = .ok (.istore_n 2, 1) := by decide +kernel
theorem dX6_readHouse_26 : decode cX6_readHouse 26 = .ok (.iload_n 2, 1) := by decide +kernel
theorem dX6_readHouse_27 : decode cX6_readHouse 27 = .ok (.bipush (-9), 2) := by decide +kernel
theorem dX6_readHouse_29 : decode cX6_readHouse 29 = .ok (.if_icmp .ne 5, 3) := by decide +kernel
theorem dX6_readHouse_32 : decode cX6_readHouse 32 = .ok (.iconst 0, 1) := by decide +kernel
theorem dX6_readHouse_33 : decode cX6_readHouse 33 = .ok (.ireturn, 1) := by decide +kernel
theorem dX6_readHouse_34 : decode cX6_readHouse 34 = .ok (.aload_n 0, 1) := by decide +kernel
theorem dX6_readHouse_35 : decode cX6_readHouse 35 = .ok (.getfield 16, 3) := by decide +kernel
theorem dX6_readHouse_38 : decode cX6_readHouse 38 = .ok (.iconst 2, 1) := by decide +kernel
theorem dX6_readHouse_39 : decode cX6_readHouse 39 = .ok (.aload_n 0, 1) := by decide +kernel
theorem dX6_readHouse_40 : decode cX6_readHouse 40 = .ok (.getfield 76, 3) := by decide +kernel
theorem dX6_readHouse_43 : decode cX6_readHouse 43 = .ok (.imul, 1) := by decide +kernel
theorem dX6_readHouse_44 : decode cX6_readHouse 44 = .ok (.iload_n 1, 1) := by decide +kernel
theorem dX6_readHouse_45 : decode cX6_readHouse 45 = .ok (.iastore, 1) := by decide +kernel
theorem dX6_readHouse_46 : decode cX6_readHouse 46 = .ok (.aload_n 0, 1) := by decide +kernel
theorem dX6_readHouse_47 : decode cX6_readHouse 47 = .ok (.getfield 16, 3) := by decide +kernel
theorem dX6_readHouse_50 : decode cX6_readHouse 50 = .ok (.iconst 2, 1) := by decide +kernel
theorem dX6_readHouse_51 : decode cX6_readHouse 51 = .ok (.aload_n 0, 1) := by decide +kernel
theorem dX6_readHouse_52 : decode cX6_readHouse 52 = .ok (.getfield 76, 3) := by decide +kernel
theorem dX6_readHouse_55 : decode cX6_readHouse 55 = .ok (.imul, 1) := by decide +kernel
theorem dX6_readHouse_56 : decode cX6_readHouse 56 = .ok (.iconst 1, 1) := by decide +kernel
theorem dX6_readHouse_57 : decode cX6_readHouse 57 = .ok (.iadd, 1) := by decide +kernel
theorem dX6_readHouse_58 : decode cX6_readHouse 58 = .ok (.iload_n 2, 1) := by decide +kernel
theorem dX6_readHouse_59 : decode cX6_readHouse 59 = .ok (.iastore, 1) := by decide +kernel
theorem dX6_readHouse_60 : decode cX6_readHouse 60 = .ok (.aload_n 0, 1) := by decide +kernel
theorem dX6_readHouse_61 : decode cX6_readHouse 61 = .ok (.dup, 1) := by decide +kernel
theorem dX6_readHouse_62 : decode cX6_readHouse 62 = .ok (.getfield 76, 3) := by decide +kernel
theorem dX6_readHouse_65 : decode cX6_readHouse 65 = .ok (.iconst 1, 1) := by decide +kernel
theorem dX6_readHouse_66 : decode cX6_readHouse 66 = .ok (.iadd, 1) := by decide +kernel
theorem dX6_readHouse_67 : decode cX6_readHouse 67 = .ok (.putfield 76, 3) := by decide +kernel
theorem dX6_readHouse_70 : decode cX6_readHouse 70 = .ok (.iconst 1, 1) := by decide +kernel
theorem dX6_readHouse_71 : decode cX6_readHouse 71 = .ok (.ireturn, 1) := by decide +kernel
set_option maxRecDepth 20000 in
theorem ggX6_readChild_X6_figure : GoodIn wsX6_readChild wsX6_figure := goodIn_r _ [8, 9, 10, 11, 12, 13, 7, 14, 15, 16, 17, 18, 19, 20, 21, 22, 23, 24, 25, 26, 27, 28, 29, 30, 31, 32, 33, 34, 35, 36, 37, 38, 39, 40, 41, 42, 43, 44, 45, 46] (by decide +kernel) (by decide +kernel)
set_option maxRecDepth 20000 in
theorem gX6_readChild_X6_figure : GoodIn wsX6_readChild (wsV RX6 72 RX6 yX6_figure wsX6_figure) := goodIn_app (goodIn_of _ (by decide +kernel)) ggX6_readChild_X6_figure
theorem dX6_readChild_0 : decode cX6_readChild 0 = .ok (.aload_n 0, 1) := by decide +kernel
theorem dX6_readChild_1 : decode cX6_readChild 1 = .ok (.iconst 0, 1) := by decide +kernel
theorem dX6_readChild_2 : decode cX6_readChild 2 = .ok (.bipush 9, 2) := by decide +kernel
theorem dX6_readChild_4 : decode cX6_readChild 4 = .ok (.invokevirtual 72, 3) := by decide +kernel
theorem dX6_readChild_7 : decode cX6_readChild 7 = .ok (.istore_n 1, 1) := by decide +kernel
theorem dX6_readChild_8 : decode cX6_readChild 8 = .ok (.iload_n 1, 1) := by decide +kernel
theorem dX6_readChild_9 : decode cX6_readChild 9 = .ok (.bipush (-9), 2) := by decide +kernel
theorem dX6_readChild_11 : decode cX6_readChild 11 = .ok (.if_icmp .ne 8, 3) := by decide +kernel
theorem dX6_readChild_14 : decode cX6_readChild 14 = .ok (.bipush (-9), 2) := by decide +kernel
theorem dX6_readChild_16 : decode cX6_readChild 16 = .ok (.goto 14, 3) := by decide +kernel
theorem dX6_readChild_19 : decode cX6_readChild 19 = .ok (.aload_n 0, 1) := by decide +kernel
theorem dX6_readChild_20 : decode cX6_readChild 20 = .ok (.iconst 0, 1) := by decide +kernel
theorem dX6_readChild_21 : decode cX6_readChild 21 = .ok (.aload_n 0, 1) := by decide +kernel
theorem dX6_readChild_22 : decode cX6_readChild 22 = .ok (.getfield 76, 3) := by decide +kernel
theorem dX6_readChild_25 : decode cX6_readChild 25 = .ok (.iconst 1, 1) := by decide +kernel
theorem dX6_readChild_26 : decode cX6_readChild 26 = .ok (.isub, 1) := by decide +kernel
theorem dX6_readChild_27 : decode cX6_readChild 27 = .ok (.invokevirtual 72, 3) := by decide +kernel
theorem dX6_readChild_30 : decode cX6_readChild 30 = .ok (.istore_n 2, 1) := by decide +kernel
theorem dX6_readChild_31 : decode cX6_readChild 31 = .ok (.iload_n 2, 1) := by decide +kernel
theorem dX6_readChild_32 : decode cX6_readChild 32 = .ok (.bipush (-9), 2) := by decide +kernel
theorem dX6_readChild_34 : decode cX6_readChild 34 = .ok (.if_icmp .ne 8, 3) := by decide +kernel
theorem dX6_readChild_37 : decode cX6_readChild 37 = .ok (.bipush (-9), 2) := by decide +kernel
theorem dX6_readChild_39 : decode cX6_readChild 39 = .ok (.goto 9, 3) := by decide +kernel
theorem dX6_readChild_42 : decode cX6_readChild 42 = .ok (.aload_n 0, 1) := by decide +kernel
theorem dX6_readChild_43 : decode cX6_readChild 43 = .ok (.iconst 0, 1) := by decide +kernel
theorem dX6_readChild_44 : decode cX6_readChild 44 = .ok (.iconst 3, 1) := by decide +kernel
theorem dX6_readChild_45 : decode cX6_readChild 45 = .ok (.invokevirtual 72, 3) := by decide +kernel
theorem dX6_readChild_48 : decode cX6_readChild 48 = .ok (.istore_n 3, 1) := by decide +kernel
theorem dX6_readChild_49 : decode cX6_readChild 49 = .ok (.iload_n 3, 1) := by decide +kernel
theorem dX6_readChild_50 : decode cX6_readChild 50 = .ok (.bipush (-9), 2) := by decide +kernel
theorem dX6_readChild_52 : decode cX6_readChild 52 = .ok (.if_icmp .ne 5, 3) := by decide +kernel
theorem dX6_readChild_55 : decode cX6_readChild 55 = .ok (.iconst 0, 1) := by decide +kernel
theorem dX6_readChild_56 : decode cX6_readChild 56 = .ok (.ireturn, 1) := by decide +kernel
theorem dX6_readChild_57 : decode cX6_readChild 57 = .ok (.aload_n 0, 1) := by decide +kernel
theorem dX6_readChild_58 : decode cX6_readChild 58 = .ok (.getfield 19, 3) := by decide +kernel
theorem dX6_readChild_61 : decode cX6_readChild 61 = .ok (.iconst 3, 1) := by decide +kernel
theorem dX6_readChild_62 : decode cX6_readChild 62 = .ok (.aload_n 0, 1) := by decide +kernel
theorem dX6_readChild_63 : decode cX6_readChild 63 = .ok (.getfield 79, 3) := by decide +kernel
theorem dX6_readChild_66 : decode cX6_readChild 66 = .ok (.imul, 1) := by decide +kernel
theorem dX6_readChild_67 : decode cX6_readChild 67 = .ok (.iload_n 1, 1) := by decide +kernel
theorem dX6_readChild_68 : decode cX6_readChild 68 = .ok (.iastore, 1) := by decide +kernel
theorem dX6_readChild_69 : decode cX6_readChild 69 = .ok (.aload_n 0, 1) := by decide +kernel
theorem dX6_readChild_70 : decode cX6_readChild 70 = .ok (.getfield 19, 3) := by decide +kernel
theorem dX6_readChild_73 : decode cX6_readChild 73 = .ok (.iconst 3, 1) := by decide +kernel
theorem dX6_readChild_74 : decode cX6_readChild 74 = .ok (.aload_n 0, 1) := by decide +kernel
theorem dX6_readChild_75 : decode cX6_readChild 75 = .ok (.getfield 79, 3) := by decide +kernel
theorem dX6_readChild_78 : decode cX6_readChild 78 = .ok (.imul, 1) := by decide +kernel
theorem dX6_readChild_79 : decode cX6_readChild 79 = .ok (.iconst 1, 1) := by decide +kernel
theorem dX6_readChild_80 : decode cX6_readChild 80 = .ok (.iadd, 1) := by decide +kernel
theorem dX6_readChild_81 : decode cX6_readChild 81 = .ok (.iload_n 2, 1) := by decide +kernel
theorem dX6_readChild_82 : decode cX6_readChild 82 = .ok (.iastore, 1) := by decide +kernel
theorem dX6_readChild_83 : decode cX6_readChild 83 = .ok (.aload_n 0, 1) := by decide +kernel
theorem dX6_readChild_84 : decode cX6_readChild 84 = .ok (.getfield 19, 3) := by decide +kernel
theorem dX6_readChild_87 : decode cX6_readChild 87 = .ok (.iconst 3, 1) := by decide +kernel
theorem dX6_readChild_88 : decode cX6_readChild 88 = .ok (.aload_n 0, 1) := by decide +kernel
theorem dX6_readChild_89 : decode cX6_readChild 89 = .ok (.getfield 79, 3) := by decide +kernel
theorem dX6_readChild_92 : decode cX6_readChild 92 = .ok (.imul, 1) := by decide +kernel
theorem dX6_readChild_93 : decode cX6_readChild 93 = .ok (.iconst 2, 1) := by decide +kernel
theorem dX6_readChild_94 : decode cX6_readChild 94 = .ok (.iadd, 1) := by decide +kernel
theorem dX6_readChild_95 : decode cX6_readChild 95 = .ok (.iload_n 3, 1) := by decide +kernel
theorem dX6_readChild_96 : decode cX6_readChild 96 = .ok (.iastore, 1) := by decide +kernel
theorem dX6_readChild_97 : decode cX6_readChild 97 = .ok (.aload_n 0, 1) := by decide +kernel
theorem dX6_readChild_98 : decode cX6_readChild 98 = .ok (.dup, 1) := by decide +kernel
theorem dX6_readChild_99 : decode cX6_readChild 99 = .ok (.getfield 79, 3) := by decide +kernel
theorem dX6_readChild_102 : decode cX6_readChild 102 = .ok (.iconst 1, 1) := by decide +kernel
theorem dX6_readChild_103 : decode cX6_readChild 103 = .ok (.iadd, 1) := by decide +kernel
theorem dX6_readChild_104 : decode cX6_readChild 104 = .ok (.putfield 79, 3) := by decide +kernel
theorem dX6_readChild_107 : decode cX6_readChild 107 = .ok (.iconst 1, 1) := by decide +kernel
theorem dX6_readChild_108 : decode cX6_readChild 108 = .ok (.ireturn, 1) := by decide +kernel
set_option maxRecDepth 20000 in
theorem ggX6_readPart_X6_readHouse : GoodIn wsX6_readPart wsX6_readHouse := goodIn_r _ [9, 10, 3, 11, 12, 13, 8, 14, 2, 15, 1, 16, 17, 18, 24, 25, 26, 27, 28, 29, 30, 31, 32, 33, 34, 35, 36, 37, 38, 39, 40, 41, 42, 43, 44, 45, 46, 47, 48, 49, 50, 51, 52, 53, 54, 55] (by decide +kernel) (by decide +kernel)
set_option maxRecDepth 20000 in
theorem gX6_readPart_X6_readHouse : GoodIn wsX6_readPart (wsV RX6 82 RX6 yX6_readHouse wsX6_readHouse) := goodIn_app (goodIn_of _ (by decide +kernel)) ggX6_readPart_X6_readHouse
set_option maxRecDepth 20000 in
theorem ggX6_readPart_X6_readChild : GoodIn wsX6_readPart wsX6_readChild := goodIn_r _ [22, 3, 23, 4, 11, 12, 13, 8, 14, 2, 15, 1, 16, 17, 18, 24, 25, 26, 27, 28, 29, 30, 31, 32, 33, 34, 35, 36, 37, 38, 39, 40, 41, 42, 43, 44, 45, 46, 47, 48, 49, 50, 51, 52, 53, 54, 55] (by decide +kernel) (by decide +kernel)
set_option maxRecDepth 20000 in
theorem gX6_readPart_X6_readChild : GoodIn wsX6_readPart (wsV RX6 85 RX6 yX6_readChild wsX6_readChild) := goodIn_app (goodIn_of _ (by decide +kernel)) ggX6_readPart_X6_readChild
theorem dX6_readPart_0 : decode cX6_readPart 0 = .ok (.aload_n 0, 1) := by decide +kernel
theorem dX6_readPart_1 : decode cX6_readPart 1 = .ok (.getfield 7, 3) := by decide +kernel
theorem dX6_readPart_4 : decode cX6_readPart 4 = .ok (.aload_n 0, 1) := by decide +kernel
theorem dX6_readPart_5 : decode cX6_readPart 5 = .ok (.getfield 69, 3) := by decide +kernel
theorem dX6_readPart_8 : decode cX6_readPart 8 = .ok (.iaload, 1) := by decide +kernel
theorem dX6_readPart_9 : decode cX6_readPart 9 = .ok (.istore_n 1, 1) := by decide +kernel
theorem dX6_readPart_10 : decode cX6_readPart 10 = .ok (.aload_n 0, 1) := by decide +kernel
theorem dX6_readPart_11 : decode cX6_readPart 11 = .ok (.dup, 1) := by decide +kernel
theorem dX6_readPart_12 : decode cX6_readPart 12 = .ok (.getfield 69, 3) := by decide +kernel
theorem dX6_readPart_15 : decode cX6_readPart 15 = .ok (.iconst 1, 1) := by decide +kernel
theorem dX6_readPart_16 : decode cX6_readPart 16 = .ok (.iadd, 1) := by decide +kernel
theorem dX6_readPart_17 : decode cX6_readPart 17 = .ok (.putfield 69, 3) := by decide +kernel
theorem dX6_readPart_20 : decode cX6_readPart 20 = .ok (.iload_n 1, 1) := by decide +kernel
theorem dX6_readPart_21 : decode cX6_readPart 21 = .ok (.bipush 72, 2) := by decide +kernel
theorem dX6_readPart_23 : decode cX6_readPart 23 = .ok (.if_icmp .ne 16, 3) := by decide +kernel
theorem dX6_readPart_26 : decode cX6_readPart 26 = .ok (.aload_n 0, 1) := by decide +kernel
theorem dX6_readPart_27 : decode cX6_readPart 27 = .ok (.getfield 76, 3) := by decide +kernel
theorem dX6_readPart_30 : decode cX6_readPart 30 = .ok (.iconst 3, 1) := by decide +kernel
theorem dX6_readPart_31 : decode cX6_readPart 31 = .ok (.if_icmp .ge 8, 3) := by decide +kernel
theorem dX6_readPart_34 : decode cX6_readPart 34 = .ok (.aload_n 0, 1) := by decide +kernel
theorem dX6_readPart_35 : decode cX6_readPart 35 = .ok (.invokevirtual 82, 3) := by decide +kernel
theorem dX6_readPart_38 : decode cX6_readPart 38 = .ok (.ireturn, 1) := by decide +kernel
theorem dX6_readPart_39 : decode cX6_readPart 39 = .ok (.iload_n 1, 1) := by decide +kernel
theorem dX6_readPart_40 : decode cX6_readPart 40 = .ok (.bipush 67, 2) := by decide +kernel
theorem dX6_readPart_42 : decode cX6_readPart 42 = .ok (.if_icmp .ne 24, 3) := by decide +kernel
theorem dX6_readPart_45 : decode cX6_readPart 45 = .ok (.aload_n 0, 1) := by decide +kernel
theorem dX6_readPart_46 : decode cX6_readPart 46 = .ok (.getfield 76, 3) := by decide +kernel
theorem dX6_readPart_49 : decode cX6_readPart 49 = .ok (.ifCond .le 17, 3) := by decide +kernel
theorem dX6_readPart_52 : decode cX6_readPart 52 = .ok (.aload_n 0, 1) := by decide +kernel
theorem dX6_readPart_53 : decode cX6_readPart 53 = .ok (.getfield 79, 3) := by decide +kernel
theorem dX6_readPart_56 : decode cX6_readPart 56 = .ok (.bipush 6, 2) := by decide +kernel
theorem dX6_readPart_58 : decode cX6_readPart 58 = .ok (.if_icmp .ge 8, 3) := by decide +kernel
theorem dX6_readPart_61 : decode cX6_readPart 61 = .ok (.aload_n 0, 1) := by decide +kernel
theorem dX6_readPart_62 : decode cX6_readPart 62 = .ok (.invokevirtual 85, 3) := by decide +kernel
theorem dX6_readPart_65 : decode cX6_readPart 65 = .ok (.ireturn, 1) := by decide +kernel
theorem dX6_readPart_66 : decode cX6_readPart 66 = .ok (.aload_n 0, 1) := by decide +kernel
theorem dX6_readPart_67 : decode cX6_readPart 67 = .ok (.dup, 1) := by decide +kernel
theorem dX6_readPart_68 : decode cX6_readPart 68 = .ok (.getfield 69, 3) := by decide +kernel
theorem dX6_readPart_71 : decode cX6_readPart 71 = .ok (.iconst 1, 1) := by decide +kernel
theorem dX6_readPart_72 : decode cX6_readPart 72 = .ok (.isub, 1) := by decide +kernel
theorem dX6_readPart_73 : decode cX6_readPart 73 = .ok (.putfield 69, 3) := by decide +kernel
theorem dX6_readPart_76 : decode cX6_readPart 76 = .ok (.iconst 0, 1) := by decide +kernel
theorem dX6_readPart_77 : decode cX6_readPart 77 = .ok (.ireturn, 1) := by decide +kernel
set_option maxRecDepth 20000 in
theorem ggX6_readTown_X6_readPart : GoodIn wsX6_readTown wsX6_readPart := goodIn_r _ [10, 5, 1, 2, 3, 11, 12, 13, 9, 14, 15, 16, 17, 18, 19, 4, 20, 21, 22, 23, 24, 25, 26, 27, 28, 29, 30, 31, 32, 33, 34, 35, 36, 37, 38, 39, 40, 41, 42, 43, 44, 45, 46, 47, 48, 49, 50, 51, 52, 53, 54, 55, 56, 57, 58, 59] (by decide +kernel) (by decide +kernel)
set_option maxRecDepth 20000 in
theorem gX6_readTown_X6_readPart : GoodIn wsX6_readTown (wsV RX6 87 RX6 yX6_readPart wsX6_readPart) := goodIn_app (goodIn_of _ (by decide +kernel)) ggX6_readTown_X6_readPart
theorem dX6_readTown_0 : decode cX6_readTown 0 = .ok (.aload_n 0, 1) := by decide +kernel
theorem dX6_readTown_1 : decode cX6_readTown 1 = .ok (.iconst 0, 1) := by decide +kernel
theorem dX6_readTown_2 : decode cX6_readTown 2 = .ok (.putfield 69, 3) := by decide +kernel
theorem dX6_readTown_5 : decode cX6_readTown 5 = .ok (.aload_n 0, 1) := by decide +kernel
theorem dX6_readTown_6 : decode cX6_readTown 6 = .ok (.iconst 0, 1) := by decide +kernel
theorem dX6_readTown_7 : decode cX6_readTown 7 = .ok (.putfield 76, 3) := by decide +kernel
theorem dX6_readTown_10 : decode cX6_readTown 10 = .ok (.aload_n 0, 1) := by decide +kernel
theorem dX6_readTown_11 : decode cX6_readTown 11 = .ok (.iconst 0, 1) := by decide +kernel
theorem dX6_readTown_12 : decode cX6_readTown 12 = .ok (.putfield 79, 3) := by decide +kernel
theorem dX6_readTown_15 : decode cX6_readTown 15 = .ok (.aload_n 0, 1) := by decide +kernel
theorem dX6_readTown_16 : decode cX6_readTown 16 = .ok (.getfield 66, 3) := by decide +kernel
theorem dX6_readTown_19 : decode cX6_readTown 19 = .ok (.ifCond .eq 14, 3) := by decide +kernel
theorem dX6_readTown_22 : decode cX6_readTown 22 = .ok (.aload_n 0, 1) := by decide +kernel
theorem dX6_readTown_23 : decode cX6_readTown 23 = .ok (.getfield 7, 3) := by decide +kernel
theorem dX6_readTown_26 : decode cX6_readTown 26 = .ok (.iconst 0, 1) := by decide +kernel
theorem dX6_readTown_27 : decode cX6_readTown 27 = .ok (.iaload, 1) := by decide +kernel
theorem dX6_readTown_28 : decode cX6_readTown 28 = .ok (.bipush 89, 2) := by decide +kernel
theorem dX6_readTown_30 : decode cX6_readTown 30 = .ok (.if_icmp .eq 5, 3) := by decide +kernel
theorem dX6_readTown_33 : decode cX6_readTown 33 = .ok (.iconst 0, 1) := by decide +kernel
theorem dX6_readTown_34 : decode cX6_readTown 34 = .ok (.ireturn, 1) := by decide +kernel
theorem dX6_readTown_35 : decode cX6_readTown 35 = .ok (.aload_n 0, 1) := by decide +kernel
theorem dX6_readTown_36 : decode cX6_readTown 36 = .ok (.iconst 1, 1) := by decide +kernel
theorem dX6_readTown_37 : decode cX6_readTown 37 = .ok (.putfield 69, 3) := by decide +kernel
theorem dX6_readTown_40 : decode cX6_readTown 40 = .ok (.aload_n 0, 1) := by decide +kernel
theorem dX6_readTown_41 : decode cX6_readTown 41 = .ok (.getfield 69, 3) := by decide +kernel
theorem dX6_readTown_44 : decode cX6_readTown 44 = .ok (.aload_n 0, 1) := by decide +kernel
theorem dX6_readTown_45 : decode cX6_readTown 45 = .ok (.getfield 66, 3) := by decide +kernel
theorem dX6_readTown_48 : decode cX6_readTown 48 = .ok (.if_icmp .ge 15, 3) := by decide +kernel
theorem dX6_readTown_51 : decode cX6_readTown 51 = .ok (.aload_n 0, 1) := by decide +kernel
theorem dX6_readTown_52 : decode cX6_readTown 52 = .ok (.invokevirtual 87, 3) := by decide +kernel
theorem dX6_readTown_55 : decode cX6_readTown 55 = .ok (.ifCond .ne (-15), 3) := by decide +kernel
theorem dX6_readTown_58 : decode cX6_readTown 58 = .ok (.aload_n 0, 1) := by decide +kernel
theorem dX6_readTown_59 : decode cX6_readTown 59 = .ok (.getfield 69, 3) := by decide +kernel
theorem dX6_readTown_62 : decode cX6_readTown 62 = .ok (.ireturn, 1) := by decide +kernel
theorem dX6_readTown_63 : decode cX6_readTown 63 = .ok (.bipush (-9), 2) := by decide +kernel
theorem dX6_readTown_65 : decode cX6_readTown 65 = .ok (.ireturn, 1) := by decide +kernel
set_option maxRecDepth 20000 in
theorem ggX6_fault_X6_readTown : GoodIn wsX6_fault wsX6_readTown := goodIn_r _ [6, 7, 8, 9, 10, 11, 12, 13, 14, 5, 15, 16, 17, 18, 19, 20, 21, 22, 23, 24, 25, 26, 27, 28, 29, 30, 31, 32, 33, 34, 35, 36, 37, 38, 39, 40, 41, 42, 43, 44, 45, 46, 47, 48, 49, 50, 51, 52, 53, 54, 55, 56, 57, 58, 59, 60, 61, 62, 63, 64] (by decide +kernel) (by decide +kernel)
set_option maxRecDepth 20000 in
theorem gX6_fault_X6_readTown : GoodIn wsX6_fault (wsV RX6 90 RX6 yX6_readTown wsX6_readTown) := goodIn_app (goodIn_of _ (by decide +kernel)) ggX6_fault_X6_readTown
theorem dX6_fault_0 : decode cX6_fault 0 = .ok (.aload_n 0, 1) := by decide +kernel
theorem dX6_fault_1 : decode cX6_fault 1 = .ok (.iconst 0, 1) := by decide +kernel
theorem dX6_fault_2 : decode cX6_fault 2 = .ok (.putfield 53, 3) := by decide +kernel
theorem dX6_fault_5 : decode cX6_fault 5 = .ok (.aload_n 0, 1) := by decide +kernel
theorem dX6_fault_6 : decode cX6_fault 6 = .ok (.invokevirtual 90, 3) := by decide +kernel
theorem dX6_fault_9 : decode cX6_fault 9 = .ok (.ireturn, 1) := by decide +kernel
set_option maxRecDepth 20000 in
theorem ggX6_town_X6_readTown : GoodIn wsX6_town wsX6_readTown := goodIn_r _ [15, 16, 2, 7, 17, 18, 19, 20, 21, 14, 22, 23, 24, 25, 26, 5, 27, 28, 29, 30, 31, 32, 33, 34, 35, 36, 37, 8, 38, 39, 40, 41, 42, 43, 44, 45, 46, 47, 48, 49, 50, 51, 52, 53, 54, 55, 56, 57, 58, 59, 60, 61, 62, 63, 64, 65, 66, 67, 68, 69] (by decide +kernel) (by decide +kernel)
set_option maxRecDepth 20000 in
theorem gX6_town_X6_readTown : GoodIn wsX6_town (wsV RX6 90 RX6 yX6_readTown wsX6_readTown) := goodIn_app (goodIn_of _ (by decide +kernel)) ggX6_town_X6_readTown
theorem dX6_town_0 : decode cX6_town 0 = .ok (.aload_n 0, 1) := by decide +kernel
theorem dX6_town_1 : decode cX6_town 1 = .ok (.iconst 0, 1) := by decide +kernel
theorem dX6_town_2 : decode cX6_town 2 = .ok (.putfield 53, 3) := by decide +kernel
theorem dX6_town_5 : decode cX6_town 5 = .ok (.aload_n 0, 1) := by decide +kernel
theorem dX6_town_6 : decode cX6_town 6 = .ok (.invokevirtual 90, 3) := by decide +kernel
theorem dX6_town_9 : decode cX6_town 9 = .ok (.bipush (-9), 2) := by decide +kernel
theorem dX6_town_11 : decode cX6_town 11 = .ok (.if_icmp .eq 6, 3) := by decide +kernel
theorem dX6_town_14 : decode cX6_town 14 = .ok (.bipush (-3), 2) := by decide +kernel
theorem dX6_town_16 : decode cX6_town 16 = .ok (.ireturn, 1) := by decide +kernel
theorem dX6_town_17 : decode cX6_town 17 = .ok (.aload_n 0, 1) := by decide +kernel
theorem dX6_town_18 : decode cX6_town 18 = .ok (.aload_n 0, 1) := by decide +kernel
theorem dX6_town_19 : decode cX6_town 19 = .ok (.getfield 76, 3) := by decide +kernel
theorem dX6_town_22 : decode cX6_town 22 = .ok (.putfield 57, 3) := by decide +kernel
theorem dX6_town_25 : decode cX6_town 25 = .ok (.iconst 0, 1) := by decide +kernel
theorem dX6_town_26 : decode cX6_town 26 = .ok (.istore_n 1, 1) := by decide +kernel
theorem dX6_town_27 : decode cX6_town 27 = .ok (.iload_n 1, 1) := by decide +kernel
theorem dX6_town_28 : decode cX6_town 28 = .ok (.bipush 33, 2) := by decide +kernel
theorem dX6_town_30 : decode cX6_town 30 = .ok (.if_icmp .ge 16, 3) := by decide +kernel
theorem dX6_town_33 : decode cX6_town 33 = .ok (.aload_n 0, 1) := by decide +kernel
theorem dX6_town_34 : decode cX6_town 34 = .ok (.getfield 22, 3) := by decide +kernel
theorem dX6_town_37 : decode cX6_town 37 = .ok (.iload_n 1, 1) := by decide +kernel
theorem dX6_town_38 : decode cX6_town 38 = .ok (.iconst 0, 1) := by decide +kernel
theorem dX6_town_39 : decode cX6_town 39 = .ok (.iastore, 1) := by decide +kernel
theorem dX6_town_40 : decode cX6_town 40 = .ok (.iinc 1 1, 3) := by decide +kernel
theorem dX6_town_43 : decode cX6_town 43 = .ok (.goto (-16), 3) := by decide +kernel
theorem dX6_town_46 : decode cX6_town 46 = .ok (.iconst 0, 1) := by decide +kernel
theorem dX6_town_47 : decode cX6_town 47 = .ok (.istore_n 1, 1) := by decide +kernel
theorem dX6_town_48 : decode cX6_town 48 = .ok (.iload_n 1, 1) := by decide +kernel
theorem dX6_town_49 : decode cX6_town 49 = .ok (.aload_n 0, 1) := by decide +kernel
theorem dX6_town_50 : decode cX6_town 50 = .ok (.getfield 57, 3) := by decide +kernel
theorem dX6_town_53 : decode cX6_town 53 = .ok (.if_icmp .ge 45, 3) := by decide +kernel
theorem dX6_town_56 : decode cX6_town 56 = .ok (.aload_n 0, 1) := by decide +kernel
theorem dX6_town_57 : decode cX6_town 57 = .ok (.getfield 22, 3) := by decide +kernel
theorem dX6_town_60 : decode cX6_town 60 = .ok (.bipush 22, 2) := by decide +kernel
theorem dX6_town_62 : decode cX6_town 62 = .ok (.dup2, 1) := by decide +kernel
theorem dX6_town_63 : decode cX6_town 63 = .ok (.iaload, 1) := by decide +kernel
theorem dX6_town_64 : decode cX6_town 64 = .ok (.aload_n 0, 1) := by decide +kernel
theorem dX6_town_65 : decode cX6_town 65 = .ok (.getfield 16, 3) := by decide +kernel
theorem dX6_town_68 : decode cX6_town 68 = .ok (.iconst 2, 1) := by decide +kernel
theorem dX6_town_69 : decode cX6_town 69 = .ok (.iload_n 1, 1) := by decide +kernel
theorem dX6_town_70 : decode cX6_town 70 = .ok (.imul, 1) := by decide +kernel
theorem dX6_town_71 : decode cX6_town 71 = .ok (.iaload, 1) := by decide +kernel
theorem dX6_town_72 : decode cX6_town 72 = .ok (.iload_n 1, 1) := by decide +kernel
theorem dX6_town_73 : decode cX6_town 73 = .ok (.ishl, 1) := by decide +kernel
theorem dX6_town_74 : decode cX6_town 74 = .ok (.ior, 1) := by decide +kernel
theorem dX6_town_75 : decode cX6_town 75 = .ok (.iastore, 1) := by decide +kernel
theorem dX6_town_76 : decode cX6_town 76 = .ok (.aload_n 0, 1) := by decide +kernel
theorem dX6_town_77 : decode cX6_town 77 = .ok (.getfield 13, 3) := by decide +kernel
theorem dX6_town_80 : decode cX6_town 80 = .ok (.iload_n 1, 1) := by decide +kernel
theorem dX6_town_81 : decode cX6_town 81 = .ok (.aload_n 0, 1) := by decide +kernel
theorem dX6_town_82 : decode cX6_town 82 = .ok (.getfield 16, 3) := by decide +kernel
theorem dX6_town_85 : decode cX6_town 85 = .ok (.iconst 2, 1) := by decide +kernel
theorem dX6_town_86 : decode cX6_town 86 = .ok (.iload_n 1, 1) := by decide +kernel
theorem dX6_town_87 : decode cX6_town 87 = .ok (.imul, 1) := by decide +kernel
theorem dX6_town_88 : decode cX6_town 88 = .ok (.iconst 1, 1) := by decide +kernel
theorem dX6_town_89 : decode cX6_town 89 = .ok (.iadd, 1) := by decide +kernel
theorem dX6_town_90 : decode cX6_town 90 = .ok (.iaload, 1) := by decide +kernel
theorem dX6_town_91 : decode cX6_town 91 = .ok (.iastore, 1) := by decide +kernel
theorem dX6_town_92 : decode cX6_town 92 = .ok (.iinc 1 1, 3) := by decide +kernel
theorem dX6_town_95 : decode cX6_town 95 = .ok (.goto (-47), 3) := by decide +kernel
theorem dX6_town_98 : decode cX6_town 98 = .ok (.iconst 0, 1) := by decide +kernel
theorem dX6_town_99 : decode cX6_town 99 = .ok (.istore_n 1, 1) := by decide +kernel
theorem dX6_town_100 : decode cX6_town 100 = .ok (.iload_n 1, 1) := by decide +kernel
theorem dX6_town_101 : decode cX6_town 101 = .ok (.aload_n 0, 1) := by decide +kernel
theorem dX6_town_102 : decode cX6_town 102 = .ok (.getfield 79, 3) := by decide +kernel
theorem dX6_town_105 : decode cX6_town 105 = .ok (.if_icmp .ge 63, 3) := by decide +kernel
theorem dX6_town_108 : decode cX6_town 108 = .ok (.aload_n 0, 1) := by decide +kernel
theorem dX6_town_109 : decode cX6_town 109 = .ok (.getfield 22, 3) := by decide +kernel
theorem dX6_town_112 : decode cX6_town 112 = .ok (.iconst 0, 1) := by decide +kernel
theorem dX6_town_113 : decode cX6_town 113 = .ok (.iload_n 1, 1) := by decide +kernel
theorem dX6_town_114 : decode cX6_town 114 = .ok (.iadd, 1) := by decide +kernel
theorem dX6_town_115 : decode cX6_town 115 = .ok (.aload_n 0, 1) := by decide +kernel
theorem dX6_town_116 : decode cX6_town 116 = .ok (.getfield 19, 3) := by decide +kernel
theorem dX6_town_119 : decode cX6_town 119 = .ok (.iconst 3, 1) := by decide +kernel
theorem dX6_town_120 : decode cX6_town 120 = .ok (.iload_n 1, 1) := by decide +kernel
theorem dX6_town_121 : decode cX6_town 121 = .ok (.imul, 1) := by decide +kernel
theorem dX6_town_122 : decode cX6_town 122 = .ok (.iaload, 1) := by decide +kernel
theorem dX6_town_123 : decode cX6_town 123 = .ok (.iastore, 1) := by decide +kernel
theorem dX6_town_124 : decode cX6_town 124 = .ok (.aload_n 0, 1) := by decide +kernel
theorem dX6_town_125 : decode cX6_town 125 = .ok (.getfield 22, 3) := by decide +kernel
theorem dX6_town_128 : decode cX6_town 128 = .ok (.bipush 7, 2) := by decide +kernel
theorem dX6_town_130 : decode cX6_town 130 = .ok (.iload_n 1, 1) := by decide +kernel
theorem dX6_town_131 : decode cX6_town 131 = .ok (.iadd, 1) := by decide +kernel
theorem dX6_town_132 : decode cX6_town 132 = .ok (.aload_n 0, 1) := by decide +kernel
theorem dX6_town_133 : decode cX6_town 133 = .ok (.getfield 19, 3) := by decide +kernel
theorem dX6_town_136 : decode cX6_town 136 = .ok (.iconst 3, 1) := by decide +kernel
theorem dX6_town_137 : decode cX6_town 137 = .ok (.iload_n 1, 1) := by decide +kernel
theorem dX6_town_138 : decode cX6_town 138 = .ok (.imul, 1) := by decide +kernel
theorem dX6_town_139 : decode cX6_town 139 = .ok (.iconst 1, 1) := by decide +kernel
theorem dX6_town_140 : decode cX6_town 140 = .ok (.iadd, 1) := by decide +kernel
theorem dX6_town_141 : decode cX6_town 141 = .ok (.iaload, 1) := by decide +kernel
theorem dX6_town_142 : decode cX6_town 142 = .ok (.iastore, 1) := by decide +kernel
theorem dX6_town_143 : decode cX6_town 143 = .ok (.aload_n 0, 1) := by decide +kernel
theorem dX6_town_144 : decode cX6_town 144 = .ok (.getfield 22, 3) := by decide +kernel
theorem dX6_town_147 : decode cX6_town 147 = .ok (.bipush 26, 2) := by decide +kernel
theorem dX6_town_149 : decode cX6_town 149 = .ok (.iload_n 1, 1) := by decide +kernel
theorem dX6_town_150 : decode cX6_town 150 = .ok (.iadd, 1) := by decide +kernel
theorem dX6_town_151 : decode cX6_town 151 = .ok (.aload_n 0, 1) := by decide +kernel
theorem dX6_town_152 : decode cX6_town 152 = .ok (.getfield 19, 3) := by decide +kernel
theorem dX6_town_155 : decode cX6_town 155 = .ok (.iconst 3, 1) := by decide +kernel
theorem dX6_town_156 : decode cX6_town 156 = .ok (.iload_n 1, 1) := by decide +kernel
theorem dX6_town_157 : decode cX6_town 157 = .ok (.imul, 1) := by decide +kernel
theorem dX6_town_158 : decode cX6_town 158 = .ok (.iconst 2, 1) := by decide +kernel
theorem dX6_town_159 : decode cX6_town 159 = .ok (.iadd, 1) := by decide +kernel
theorem dX6_town_160 : decode cX6_town 160 = .ok (.iaload, 1) := by decide +kernel
theorem dX6_town_161 : decode cX6_town 161 = .ok (.iastore, 1) := by decide +kernel
theorem dX6_town_162 : decode cX6_town 162 = .ok (.iinc 1 1, 3) := by decide +kernel
theorem dX6_town_165 : decode cX6_town 165 = .ok (.goto (-65), 3) := by decide +kernel
theorem dX6_town_168 : decode cX6_town 168 = .ok (.aload_n 0, 1) := by decide +kernel
theorem dX6_town_169 : decode cX6_town 169 = .ok (.getfield 22, 3) := by decide +kernel
theorem dX6_town_172 : decode cX6_town 172 = .ok (.bipush 25, 2) := by decide +kernel
theorem dX6_town_174 : decode cX6_town 174 = .ok (.aload_n 0, 1) := by decide +kernel
theorem dX6_town_175 : decode cX6_town 175 = .ok (.getfield 79, 3) := by decide +kernel
theorem dX6_town_178 : decode cX6_town 178 = .ok (.iastore, 1) := by decide +kernel
theorem dX6_town_179 : decode cX6_town 179 = .ok (.aload_n 0, 1) := by decide +kernel
theorem dX6_town_180 : decode cX6_town 180 = .ok (.getfield 22, 3) := by decide +kernel
theorem dX6_town_183 : decode cX6_town 183 = .ok (.bipush 21, 2) := by decide +kernel
theorem dX6_town_185 : decode cX6_town 185 = .ok (.iconst 1, 1) := by decide +kernel
theorem dX6_town_186 : decode cX6_town 186 = .ok (.aload_n 0, 1) := by decide +kernel
theorem dX6_town_187 : decode cX6_town 187 = .ok (.getfield 79, 3) := by decide +kernel
theorem dX6_town_190 : decode cX6_town 190 = .ok (.ishl, 1) := by decide +kernel
theorem dX6_town_191 : decode cX6_town 191 = .ok (.iconst 1, 1) := by decide +kernel
theorem dX6_town_192 : decode cX6_town 192 = .ok (.isub, 1) := by decide +kernel
theorem dX6_town_193 : decode cX6_town 193 = .ok (.iastore, 1) := by decide +kernel
theorem dX6_town_194 : decode cX6_town 194 = .ok (.aload_n 0, 1) := by decide +kernel
theorem dX6_town_195 : decode cX6_town 195 = .ok (.iconst 0, 1) := by decide +kernel
theorem dX6_town_196 : decode cX6_town 196 = .ok (.putfield 94, 3) := by decide +kernel
theorem dX6_town_199 : decode cX6_town 199 = .ok (.aload_n 0, 1) := by decide +kernel
theorem dX6_town_200 : decode cX6_town 200 = .ok (.getfield 34, 3) := by decide +kernel
theorem dX6_town_203 : decode cX6_town 203 = .ok (.iconst 0, 1) := by decide +kernel
theorem dX6_town_204 : decode cX6_town 204 = .ok (.iconst 0, 1) := by decide +kernel
theorem dX6_town_205 : decode cX6_town 205 = .ok (.bastore, 1) := by decide +kernel
theorem dX6_town_206 : decode cX6_town 206 = .ok (.aload_n 0, 1) := by decide +kernel
theorem dX6_town_207 : decode cX6_town 207 = .ok (.getfield 34, 3) := by decide +kernel
theorem dX6_town_210 : decode cX6_town 210 = .ok (.iconst 1, 1) := by decide +kernel
theorem dX6_town_211 : decode cX6_town 211 = .ok (.iconst 0, 1) := by decide +kernel
theorem dX6_town_212 : decode cX6_town 212 = .ok (.bastore, 1) := by decide +kernel
theorem dX6_town_213 : decode cX6_town 213 = .ok (.bipush 10, 2) := by decide +kernel
theorem dX6_town_215 : decode cX6_town 215 = .ok (.aload_n 0, 1) := by decide +kernel
theorem dX6_town_216 : decode cX6_town 216 = .ok (.getfield 57, 3) := by decide +kernel
theorem dX6_town_219 : decode cX6_town 219 = .ok (.imul, 1) := by decide +kernel
theorem dX6_town_220 : decode cX6_town 220 = .ok (.aload_n 0, 1) := by decide +kernel
theorem dX6_town_221 : decode cX6_town 221 = .ok (.getfield 22, 3) := by decide +kernel
theorem dX6_town_224 : decode cX6_town 224 = .ok (.bipush 25, 2) := by decide +kernel
theorem dX6_town_226 : decode cX6_town 226 = .ok (.iaload, 1) := by decide +kernel
theorem dX6_town_227 : decode cX6_town 227 = .ok (.iadd, 1) := by decide +kernel
theorem dX6_town_228 : decode cX6_town 228 = .ok (.ireturn, 1) := by decide +kernel
theorem dX6_isOlder_0 : decode cX6_isOlder 0 = .ok (.aload_n 0, 1) := by decide +kernel
theorem dX6_isOlder_1 : decode cX6_isOlder 1 = .ok (.iconst 0, 1) := by decide +kernel
theorem dX6_isOlder_2 : decode cX6_isOlder 2 = .ok (.iload_n 1, 1) := by decide +kernel
theorem dX6_isOlder_3 : decode cX6_isOlder 3 = .ok (.iadd, 1) := by decide +kernel
theorem dX6_isOlder_4 : decode cX6_isOlder 4 = .ok (.iaload, 1) := by decide +kernel
theorem dX6_isOlder_5 : decode cX6_isOlder 5 = .ok (.aload_n 0, 1) := by decide +kernel
theorem dX6_isOlder_6 : decode cX6_isOlder 6 = .ok (.iconst 0, 1) := by decide +kernel
theorem dX6_isOlder_7 : decode cX6_isOlder 7 = .ok (.iload_n 2, 1) := by decide +kernel
theorem dX6_isOlder_8 : decode cX6_isOlder 8 = .ok (.iadd, 1) := by decide +kernel
theorem dX6_isOlder_9 : decode cX6_isOlder 9 = .ok (.iaload, 1) := by decide +kernel
theorem dX6_isOlder_10 : decode cX6_isOlder 10 = .ok (.if_icmp .eq 22, 3) := by decide +kernel
theorem dX6_isOlder_13 : decode cX6_isOlder 13 = .ok (.aload_n 0, 1) := by decide +kernel
theorem dX6_isOlder_14 : decode cX6_isOlder 14 = .ok (.iconst 0, 1) := by decide +kernel
theorem dX6_isOlder_15 : decode cX6_isOlder 15 = .ok (.iload_n 1, 1) := by decide +kernel
theorem dX6_isOlder_16 : decode cX6_isOlder 16 = .ok (.iadd, 1) := by decide +kernel
theorem dX6_isOlder_17 : decode cX6_isOlder 17 = .ok (.iaload, 1) := by decide +kernel
theorem dX6_isOlder_18 : decode cX6_isOlder 18 = .ok (.aload_n 0, 1) := by decide +kernel
theorem dX6_isOlder_19 : decode cX6_isOlder 19 = .ok (.iconst 0, 1) := by decide +kernel
theorem dX6_isOlder_20 : decode cX6_isOlder 20 = .ok (.iload_n 2, 1) := by decide +kernel
theorem dX6_isOlder_21 : decode cX6_isOlder 21 = .ok (.iadd, 1) := by decide +kernel
theorem dX6_isOlder_22 : decode cX6_isOlder 22 = .ok (.iaload, 1) := by decide +kernel
theorem dX6_isOlder_23 : decode cX6_isOlder 23 = .ok (.if_icmp .le 7, 3) := by decide +kernel
theorem dX6_isOlder_26 : decode cX6_isOlder 26 = .ok (.iconst 1, 1) := by decide +kernel
theorem dX6_isOlder_27 : decode cX6_isOlder 27 = .ok (.goto 4, 3) := by decide +kernel
theorem dX6_isOlder_30 : decode cX6_isOlder 30 = .ok (.iconst 0, 1) := by decide +kernel
theorem dX6_isOlder_31 : decode cX6_isOlder 31 = .ok (.ireturn, 1) := by decide +kernel
theorem dX6_isOlder_32 : decode cX6_isOlder 32 = .ok (.aload_n 0, 1) := by decide +kernel
theorem dX6_isOlder_33 : decode cX6_isOlder 33 = .ok (.bipush 26, 2) := by decide +kernel
theorem dX6_isOlder_35 : decode cX6_isOlder 35 = .ok (.iload_n 1, 1) := by decide +kernel
theorem dX6_isOlder_36 : decode cX6_isOlder 36 = .ok (.iadd, 1) := by decide +kernel
theorem dX6_isOlder_37 : decode cX6_isOlder 37 = .ok (.iaload, 1) := by decide +kernel
theorem dX6_isOlder_38 : decode cX6_isOlder 38 = .ok (.iconst 1, 1) := by decide +kernel
theorem dX6_isOlder_39 : decode cX6_isOlder 39 = .ok (.if_icmp .ne 7, 3) := by decide +kernel
theorem dX6_isOlder_42 : decode cX6_isOlder 42 = .ok (.iconst 1, 1) := by decide +kernel
theorem dX6_isOlder_43 : decode cX6_isOlder 43 = .ok (.goto 4, 3) := by decide +kernel
theorem dX6_isOlder_46 : decode cX6_isOlder 46 = .ok (.iconst 0, 1) := by decide +kernel
theorem dX6_isOlder_47 : decode cX6_isOlder 47 = .ok (.istore_n 3, 1) := by decide +kernel
theorem dX6_isOlder_48 : decode cX6_isOlder 48 = .ok (.aload_n 0, 1) := by decide +kernel
theorem dX6_isOlder_49 : decode cX6_isOlder 49 = .ok (.bipush 26, 2) := by decide +kernel
theorem dX6_isOlder_51 : decode cX6_isOlder 51 = .ok (.iload_n 2, 1) := by decide +kernel
theorem dX6_isOlder_52 : decode cX6_isOlder 52 = .ok (.iadd, 1) := by decide +kernel
theorem dX6_isOlder_53 : decode cX6_isOlder 53 = .ok (.iaload, 1) := by decide +kernel
theorem dX6_isOlder_54 : decode cX6_isOlder 54 = .ok (.iconst 1, 1) := by decide +kernel
theorem dX6_isOlder_55 : decode cX6_isOlder 55 = .ok (.if_icmp .ne 7, 3) := by decide +kernel
theorem dX6_isOlder_58 : decode cX6_isOlder 58 = .ok (.iconst 1, 1) := by decide +kernel
theorem dX6_isOlder_59 : decode cX6_isOlder 59 = .ok (.goto 4, 3) := by decide +kernel
theorem dX6_isOlder_62 : decode cX6_isOlder 62 = .ok (.iconst 0, 1) := by decide +kernel
theorem dX6_isOlder_63 : decode cX6_isOlder 63 = .ok (.istore 4, 2) := by decide +kernel
theorem dX6_isOlder_65 : decode cX6_isOlder 65 = .ok (.iload_n 3, 1) := by decide +kernel
theorem dX6_isOlder_66 : decode cX6_isOlder 66 = .ok (.iload 4, 2) := by decide +kernel
theorem dX6_isOlder_68 : decode cX6_isOlder 68 = .ok (.if_icmp .ne 16, 3) := by decide +kernel
theorem dX6_isOlder_71 : decode cX6_isOlder 71 = .ok (.iload_n 1, 1) := by decide +kernel
theorem dX6_isOlder_72 : decode cX6_isOlder 72 = .ok (.iload_n 2, 1) := by decide +kernel
theorem dX6_isOlder_73 : decode cX6_isOlder 73 = .ok (.if_icmp .ge 7, 3) := by decide +kernel
theorem dX6_isOlder_76 : decode cX6_isOlder 76 = .ok (.iconst 1, 1) := by decide +kernel
theorem dX6_isOlder_77 : decode cX6_isOlder 77 = .ok (.goto 8, 3) := by decide +kernel
theorem dX6_isOlder_80 : decode cX6_isOlder 80 = .ok (.iconst 0, 1) := by decide +kernel
theorem dX6_isOlder_81 : decode cX6_isOlder 81 = .ok (.goto 4, 3) := by decide +kernel
theorem dX6_isOlder_84 : decode cX6_isOlder 84 = .ok (.iload_n 3, 1) := by decide +kernel
theorem dX6_isOlder_85 : decode cX6_isOlder 85 = .ok (.ireturn, 1) := by decide +kernel
set_option maxRecDepth 20000 in
theorem ggX6_firstOf_X6_has : GoodIn wsX6_firstOf wsX6_has := goodIn_r _ [4] (by decide +kernel) (by decide +kernel)
set_option maxRecDepth 20000 in
theorem gX6_firstOf_X6_has : GoodIn wsX6_firstOf (va_wsS RX6 97 yX6_has wsX6_has) := goodIn_app (goodIn_of _ (by decide +kernel)) ggX6_firstOf_X6_has
set_option maxRecDepth 20000 in
theorem ggX6_firstOf_X6_isOlder : GoodIn wsX6_firstOf wsX6_isOlder := goodIn_r _ [7] (by decide +kernel) (by decide +kernel)
set_option maxRecDepth 20000 in
theorem gX6_firstOf_X6_isOlder : GoodIn wsX6_firstOf (va_wsS RX6 101 yX6_isOlder wsX6_isOlder) := goodIn_app (goodIn_of _ (by decide +kernel)) ggX6_firstOf_X6_isOlder
theorem dX6_firstOf_0 : decode cX6_firstOf 0 = .ok (.bipush (-9), 2) := by decide +kernel
theorem dX6_firstOf_2 : decode cX6_firstOf 2 = .ok (.istore_n 3, 1) := by decide +kernel
theorem dX6_firstOf_3 : decode cX6_firstOf 3 = .ok (.iconst 0, 1) := by decide +kernel
theorem dX6_firstOf_4 : decode cX6_firstOf 4 = .ok (.istore 4, 2) := by decide +kernel
theorem dX6_firstOf_6 : decode cX6_firstOf 6 = .ok (.iload 4, 2) := by decide +kernel
theorem dX6_firstOf_8 : decode cX6_firstOf 8 = .ok (.bipush 7, 2) := by decide +kernel
theorem dX6_firstOf_10 : decode cX6_firstOf 10 = .ok (.if_icmp .ge 42, 3) := by decide +kernel
theorem dX6_firstOf_13 : decode cX6_firstOf 13 = .ok (.iload_n 1, 1) := by decide +kernel
theorem dX6_firstOf_14 : decode cX6_firstOf 14 = .ok (.iload 4, 2) := by decide +kernel
theorem dX6_firstOf_16 : decode cX6_firstOf 16 = .ok (.invokestatic 97, 3) := by decide +kernel
theorem dX6_firstOf_19 : decode cX6_firstOf 19 = .ok (.ifCond .eq 27, 3) := by decide +kernel
theorem dX6_firstOf_22 : decode cX6_firstOf 22 = .ok (.iload_n 3, 1) := by decide +kernel
theorem dX6_firstOf_23 : decode cX6_firstOf 23 = .ok (.bipush (-9), 2) := by decide +kernel
theorem dX6_firstOf_25 : decode cX6_firstOf 25 = .ok (.if_icmp .eq 14, 3) := by decide +kernel
theorem dX6_firstOf_28 : decode cX6_firstOf 28 = .ok (.aload_n 0, 1) := by decide +kernel
theorem dX6_firstOf_29 : decode cX6_firstOf 29 = .ok (.iload 4, 2) := by decide +kernel
theorem dX6_firstOf_31 : decode cX6_firstOf 31 = .ok (.iload_n 3, 1) := by decide +kernel
theorem dX6_firstOf_32 : decode cX6_firstOf 32 = .ok (.invokestatic 101, 3) := by decide +kernel
theorem dX6_firstOf_35 : decode cX6_firstOf 35 = .ok (.iload_n 2, 1) := by decide +kernel
theorem dX6_firstOf_36 : decode cX6_firstOf 36 = .ok (.if_icmp .eq 8, 3) := by decide +kernel
theorem dX6_firstOf_39 : decode cX6_firstOf 39 = .ok (.iload 4, 2) := by decide +kernel
theorem dX6_firstOf_41 : decode cX6_firstOf 41 = .ok (.goto 4, 3) := by decide +kernel
theorem dX6_firstOf_44 : decode cX6_firstOf 44 = .ok (.iload_n 3, 1) := by decide +kernel
theorem dX6_firstOf_45 : decode cX6_firstOf 45 = .ok (.istore_n 3, 1) := by decide +kernel
theorem dX6_firstOf_46 : decode cX6_firstOf 46 = .ok (.iinc 4 1, 3) := by decide +kernel
theorem dX6_firstOf_49 : decode cX6_firstOf 49 = .ok (.goto (-43), 3) := by decide +kernel
theorem dX6_firstOf_52 : decode cX6_firstOf 52 = .ok (.iload_n 3, 1) := by decide +kernel
theorem dX6_firstOf_53 : decode cX6_firstOf 53 = .ok (.bipush (-9), 2) := by decide +kernel
theorem dX6_firstOf_55 : decode cX6_firstOf 55 = .ok (.if_icmp .ne 7, 3) := by decide +kernel
theorem dX6_firstOf_58 : decode cX6_firstOf 58 = .ok (.iconst 0, 1) := by decide +kernel
theorem dX6_firstOf_59 : decode cX6_firstOf 59 = .ok (.goto 6, 3) := by decide +kernel
theorem dX6_firstOf_62 : decode cX6_firstOf 62 = .ok (.iconst 1, 1) := by decide +kernel
theorem dX6_firstOf_63 : decode cX6_firstOf 63 = .ok (.iload_n 3, 1) := by decide +kernel
theorem dX6_firstOf_64 : decode cX6_firstOf 64 = .ok (.ishl, 1) := by decide +kernel
theorem dX6_firstOf_65 : decode cX6_firstOf 65 = .ok (.ireturn, 1) := by decide +kernel
set_option maxRecDepth 20000 in
theorem ggX6_heirsOf_X6_has : GoodIn wsX6_heirsOf wsX6_has := goodIn_r _ [4] (by decide +kernel) (by decide +kernel)
set_option maxRecDepth 20000 in
theorem gX6_heirsOf_X6_has : GoodIn wsX6_heirsOf (va_wsS RX6 97 yX6_has wsX6_has) := goodIn_app (goodIn_of _ (by decide +kernel)) ggX6_heirsOf_X6_has
set_option maxRecDepth 20000 in
theorem ggX6_heirsOf_X6_firstOf : GoodIn wsX6_heirsOf wsX6_firstOf := goodIn_r _ [7, 1, 2, 3, 4, 8, 9, 10] (by decide +kernel) (by decide +kernel)
set_option maxRecDepth 20000 in
theorem gX6_heirsOf_X6_firstOf : GoodIn wsX6_heirsOf (va_wsS RX6 105 yX6_firstOf wsX6_firstOf) := goodIn_app (goodIn_of _ (by decide +kernel)) ggX6_heirsOf_X6_firstOf
theorem dX6_heirsOf_0 : decode cX6_heirsOf 0 = .ok (.iconst 0, 1) := by decide +kernel
theorem dX6_heirsOf_1 : decode cX6_heirsOf 1 = .ok (.istore 4, 2) := by decide +kernel
theorem dX6_heirsOf_3 : decode cX6_heirsOf 3 = .ok (.iconst 0, 1) := by decide +kernel
theorem dX6_heirsOf_4 : decode cX6_heirsOf 4 = .ok (.istore 5, 2) := by decide +kernel
theorem dX6_heirsOf_6 : decode cX6_heirsOf 6 = .ok (.iconst 0, 1) := by decide +kernel
theorem dX6_heirsOf_7 : decode cX6_heirsOf 7 = .ok (.istore 6, 2) := by decide +kernel
theorem dX6_heirsOf_9 : decode cX6_heirsOf 9 = .ok (.iconst 0, 1) := by decide +kernel
theorem dX6_heirsOf_10 : decode cX6_heirsOf 10 = .ok (.istore 7, 2) := by decide +kernel
theorem dX6_heirsOf_12 : decode cX6_heirsOf 12 = .ok (.iload 7, 2) := by decide +kernel
theorem dX6_heirsOf_14 : decode cX6_heirsOf 14 = .ok (.aload_n 0, 1) := by decide +kernel
theorem dX6_heirsOf_15 : decode cX6_heirsOf 15 = .ok (.bipush 25, 2) := by decide +kernel
theorem dX6_heirsOf_17 : decode cX6_heirsOf 17 = .ok (.iaload, 1) := by decide +kernel
theorem dX6_heirsOf_18 : decode cX6_heirsOf 18 = .ok (.if_icmp .ge 105, 3) := by decide +kernel
theorem dX6_heirsOf_21 : decode cX6_heirsOf 21 = .ok (.iload_n 3, 1) := by decide +kernel
theorem dX6_heirsOf_22 : decode cX6_heirsOf 22 = .ok (.iload 7, 2) := by decide +kernel
theorem dX6_heirsOf_24 : decode cX6_heirsOf 24 = .ok (.invokestatic 97, 3) := by decide +kernel
theorem dX6_heirsOf_27 : decode cX6_heirsOf 27 = .ok (.ifCond .eq 21, 3) := by decide +kernel
theorem dX6_heirsOf_30 : decode cX6_heirsOf 30 = .ok (.aload_n 0, 1) := by decide +kernel
theorem dX6_heirsOf_31 : decode cX6_heirsOf 31 = .ok (.bipush 7, 2) := by decide +kernel
theorem dX6_heirsOf_33 : decode cX6_heirsOf 33 = .ok (.iload 7, 2) := by decide +kernel
theorem dX6_heirsOf_35 : decode cX6_heirsOf 35 = .ok (.iadd, 1) := by decide +kernel
theorem dX6_heirsOf_36 : decode cX6_heirsOf 36 = .ok (.iaload, 1) := by decide +kernel
theorem dX6_heirsOf_37 : decode cX6_heirsOf 37 = .ok (.iload_n 1, 1) := by decide +kernel
theorem dX6_heirsOf_38 : decode cX6_heirsOf 38 = .ok (.if_icmp .ne 10, 3) := by decide +kernel
theorem dX6_heirsOf_41 : decode cX6_heirsOf 41 = .ok (.iconst 1, 1) := by decide +kernel
theorem dX6_heirsOf_42 : decode cX6_heirsOf 42 = .ok (.iload 7, 2) := by decide +kernel
theorem dX6_heirsOf_44 : decode cX6_heirsOf 44 = .ok (.ishl, 1) := by decide +kernel
theorem dX6_heirsOf_45 : decode cX6_heirsOf 45 = .ok (.goto 4, 3) := by decide +kernel
theorem dX6_heirsOf_48 : decode cX6_heirsOf 48 = .ok (.iconst 0, 1) := by decide +kernel
theorem dX6_heirsOf_49 : decode cX6_heirsOf 49 = .ok (.istore 8, 2) := by decide +kernel
theorem dX6_heirsOf_51 : decode cX6_heirsOf 51 = .ok (.iload 4, 2) := by decide +kernel
theorem dX6_heirsOf_53 : decode cX6_heirsOf 53 = .ok (.aload_n 0, 1) := by decide +kernel
theorem dX6_heirsOf_54 : decode cX6_heirsOf 54 = .ok (.bipush 26, 2) := by decide +kernel
theorem dX6_heirsOf_56 : decode cX6_heirsOf 56 = .ok (.iload 7, 2) := by decide +kernel
theorem dX6_heirsOf_58 : decode cX6_heirsOf 58 = .ok (.iadd, 1) := by decide +kernel
theorem dX6_heirsOf_59 : decode cX6_heirsOf 59 = .ok (.iaload, 1) := by decide +kernel
theorem dX6_heirsOf_60 : decode cX6_heirsOf 60 = .ok (.iconst 2, 1) := by decide +kernel
theorem dX6_heirsOf_61 : decode cX6_heirsOf 61 = .ok (.if_icmp .ge 8, 3) := by decide +kernel
theorem dX6_heirsOf_64 : decode cX6_heirsOf 64 = .ok (.iload 8, 2) := by decide +kernel
theorem dX6_heirsOf_66 : decode cX6_heirsOf 66 = .ok (.goto 4, 3) := by decide +kernel
theorem dX6_heirsOf_69 : decode cX6_heirsOf 69 = .ok (.iconst 0, 1) := by decide +kernel
theorem dX6_heirsOf_70 : decode cX6_heirsOf 70 = .ok (.ior, 1) := by decide +kernel
theorem dX6_heirsOf_71 : decode cX6_heirsOf 71 = .ok (.istore 4, 2) := by decide +kernel
theorem dX6_heirsOf_73 : decode cX6_heirsOf 73 = .ok (.iload 5, 2) := by decide +kernel
theorem dX6_heirsOf_75 : decode cX6_heirsOf 75 = .ok (.aload_n 0, 1) := by decide +kernel
theorem dX6_heirsOf_76 : decode cX6_heirsOf 76 = .ok (.bipush 26, 2) := by decide +kernel
theorem dX6_heirsOf_78 : decode cX6_heirsOf 78 = .ok (.iload 7, 2) := by decide +kernel
theorem dX6_heirsOf_80 : decode cX6_heirsOf 80 = .ok (.iadd, 1) := by decide +kernel
theorem dX6_heirsOf_81 : decode cX6_heirsOf 81 = .ok (.iaload, 1) := by decide +kernel
theorem dX6_heirsOf_82 : decode cX6_heirsOf 82 = .ok (.iconst 2, 1) := by decide +kernel
theorem dX6_heirsOf_83 : decode cX6_heirsOf 83 = .ok (.if_icmp .ne 8, 3) := by decide +kernel
theorem dX6_heirsOf_86 : decode cX6_heirsOf 86 = .ok (.iload 8, 2) := by decide +kernel
theorem dX6_heirsOf_88 : decode cX6_heirsOf 88 = .ok (.goto 4, 3) := by decide +kernel
theorem dX6_heirsOf_91 : decode cX6_heirsOf 91 = .ok (.iconst 0, 1) := by decide +kernel
theorem dX6_heirsOf_92 : decode cX6_heirsOf 92 = .ok (.ior, 1) := by decide +kernel
theorem dX6_heirsOf_93 : decode cX6_heirsOf 93 = .ok (.istore 5, 2) := by decide +kernel
theorem dX6_heirsOf_95 : decode cX6_heirsOf 95 = .ok (.iload 6, 2) := by decide +kernel
theorem dX6_heirsOf_97 : decode cX6_heirsOf 97 = .ok (.aload_n 0, 1) := by decide +kernel
theorem dX6_heirsOf_98 : decode cX6_heirsOf 98 = .ok (.bipush 26, 2) := by decide +kernel
theorem dX6_heirsOf_100 : decode cX6_heirsOf 100 = .ok (.iload 7, 2) := by decide +kernel
theorem dX6_heirsOf_102 : decode cX6_heirsOf 102 = .ok (.iadd, 1) := by decide +kernel
theorem dX6_heirsOf_103 : decode cX6_heirsOf 103 = .ok (.iaload, 1) := by decide +kernel
theorem dX6_heirsOf_104 : decode cX6_heirsOf 104 = .ok (.iconst 3, 1) := by decide +kernel
theorem dX6_heirsOf_105 : decode cX6_heirsOf 105 = .ok (.if_icmp .ne 8, 3) := by decide +kernel
theorem dX6_heirsOf_108 : decode cX6_heirsOf 108 = .ok (.iload 8, 2) := by decide +kernel
theorem dX6_heirsOf_110 : decode cX6_heirsOf 110 = .ok (.goto 4, 3) := by decide +kernel
theorem dX6_heirsOf_113 : decode cX6_heirsOf 113 = .ok (.iconst 0, 1) := by decide +kernel
theorem dX6_heirsOf_114 : decode cX6_heirsOf 114 = .ok (.ior, 1) := by decide +kernel
theorem dX6_heirsOf_115 : decode cX6_heirsOf 115 = .ok (.istore 6, 2) := by decide +kernel
theorem dX6_heirsOf_117 : decode cX6_heirsOf 117 = .ok (.iinc 7 1, 3) := by decide +kernel
theorem dX6_heirsOf_120 : decode cX6_heirsOf 120 = .ok (.goto (-108), 3) := by decide +kernel
theorem dX6_heirsOf_123 : decode cX6_heirsOf 123 = .ok (.iload 4, 2) := by decide +kernel
theorem dX6_heirsOf_125 : decode cX6_heirsOf 125 = .ok (.ifCond .eq 20, 3) := by decide +kernel
theorem dX6_heirsOf_128 : decode cX6_heirsOf 128 = .ok (.aload_n 0, 1) := by decide +kernel
theorem dX6_heirsOf_129 : decode cX6_heirsOf 129 = .ok (.iload 4, 2) := by decide +kernel
theorem dX6_heirsOf_131 : decode cX6_heirsOf 131 = .ok (.iload_n 2, 1) := by decide +kernel
theorem dX6_heirsOf_132 : decode cX6_heirsOf 132 = .ok (.iconst 1, 1) := by decide +kernel
theorem dX6_heirsOf_133 : decode cX6_heirsOf 133 = .ok (.if_icmp .ne 7, 3) := by decide +kernel
theorem dX6_heirsOf_136 : decode cX6_heirsOf 136 = .ok (.iconst 1, 1) := by decide +kernel
theorem dX6_heirsOf_137 : decode cX6_heirsOf 137 = .ok (.goto 4, 3) := by decide +kernel
theorem dX6_heirsOf_140 : decode cX6_heirsOf 140 = .ok (.iconst 0, 1) := by decide +kernel
theorem dX6_heirsOf_141 : decode cX6_heirsOf 141 = .ok (.invokestatic 105, 3) := by decide +kernel
theorem dX6_heirsOf_144 : decode cX6_heirsOf 144 = .ok (.ireturn, 1) := by decide +kernel
theorem dX6_heirsOf_145 : decode cX6_heirsOf 145 = .ok (.iload 5, 2) := by decide +kernel
theorem dX6_heirsOf_147 : decode cX6_heirsOf 147 = .ok (.ifCond .eq 8, 3) := by decide +kernel
theorem dX6_heirsOf_150 : decode cX6_heirsOf 150 = .ok (.iload 5, 2) := by decide +kernel
theorem dX6_heirsOf_152 : decode cX6_heirsOf 152 = .ok (.goto 10, 3) := by decide +kernel
theorem dX6_heirsOf_155 : decode cX6_heirsOf 155 = .ok (.aload_n 0, 1) := by decide +kernel
theorem dX6_heirsOf_156 : decode cX6_heirsOf 156 = .ok (.iload 6, 2) := by decide +kernel
theorem dX6_heirsOf_158 : decode cX6_heirsOf 158 = .ok (.iconst 0, 1) := by decide +kernel
theorem dX6_heirsOf_159 : decode cX6_heirsOf 159 = .ok (.invokestatic 105, 3) := by decide +kernel
theorem dX6_heirsOf_162 : decode cX6_heirsOf 162 = .ok (.ireturn, 1) := by decide +kernel
set_option maxRecDepth 20000 in
theorem ggX6_heirsNow_X6_heirsOf : GoodIn wsX6_heirsNow wsX6_heirsOf := goodIn_r _ [4, 5, 6, 3, 7, 8, 9, 10, 11, 12, 13] (by decide +kernel) (by decide +kernel)
set_option maxRecDepth 20000 in
theorem gX6_heirsNow_X6_heirsOf : GoodIn wsX6_heirsNow (va_wsS RX6 109 yX6_heirsOf wsX6_heirsOf) := goodIn_app (goodIn_of _ (by decide +kernel)) ggX6_heirsNow_X6_heirsOf
theorem dX6_heirsNow_0 : decode cX6_heirsNow 0 = .ok (.aload_n 0, 1) := by decide +kernel
theorem dX6_heirsNow_1 : decode cX6_heirsNow 1 = .ok (.iload_n 1, 1) := by decide +kernel
theorem dX6_heirsNow_2 : decode cX6_heirsNow 2 = .ok (.aload_n 0, 1) := by decide +kernel
theorem dX6_heirsNow_3 : decode cX6_heirsNow 3 = .ok (.bipush 22, 2) := by decide +kernel
theorem dX6_heirsNow_5 : decode cX6_heirsNow 5 = .ok (.iaload, 1) := by decide +kernel
theorem dX6_heirsNow_6 : decode cX6_heirsNow 6 = .ok (.iload_n 1, 1) := by decide +kernel
theorem dX6_heirsNow_7 : decode cX6_heirsNow 7 = .ok (.ishr, 1) := by decide +kernel
theorem dX6_heirsNow_8 : decode cX6_heirsNow 8 = .ok (.iconst 1, 1) := by decide +kernel
theorem dX6_heirsNow_9 : decode cX6_heirsNow 9 = .ok (.iand, 1) := by decide +kernel
theorem dX6_heirsNow_10 : decode cX6_heirsNow 10 = .ok (.aload_n 0, 1) := by decide +kernel
theorem dX6_heirsNow_11 : decode cX6_heirsNow 11 = .ok (.bipush 21, 2) := by decide +kernel
theorem dX6_heirsNow_13 : decode cX6_heirsNow 13 = .ok (.iaload, 1) := by decide +kernel
theorem dX6_heirsNow_14 : decode cX6_heirsNow 14 = .ok (.invokestatic 109, 3) := by decide +kernel
theorem dX6_heirsNow_17 : decode cX6_heirsNow 17 = .ok (.ireturn, 1) := by decide +kernel
theorem dX6_about_0 : decode cX6_about 0 = .ok (.aload_n 0, 1) := by decide +kernel
theorem dX6_about_1 : decode cX6_about 1 = .ok (.iconst 0, 1) := by decide +kernel
theorem dX6_about_2 : decode cX6_about 2 = .ok (.putfield 53, 3) := by decide +kernel
theorem dX6_about_5 : decode cX6_about 5 = .ok (.iload_n 1, 1) := by decide +kernel
theorem dX6_about_6 : decode cX6_about 6 = .ok (.tableswitch 110 0 8 #[50, 55, 63, 71, 79, 87, 95, 100, 105], 50) := by decide +kernel
theorem dX6_about_56 : decode cX6_about 56 = .ok (.aload_n 0, 1) := by decide +kernel
theorem dX6_about_57 : decode cX6_about 57 = .ok (.getfield 57, 3) := by decide +kernel
theorem dX6_about_60 : decode cX6_about 60 = .ok (.ireturn, 1) := by decide +kernel
theorem dX6_about_61 : decode cX6_about 61 = .ok (.aload_n 0, 1) := by decide +kernel
theorem dX6_about_62 : decode cX6_about 62 = .ok (.getfield 22, 3) := by decide +kernel
theorem dX6_about_65 : decode cX6_about 65 = .ok (.bipush 25, 2) := by decide +kernel
theorem dX6_about_67 : decode cX6_about 67 = .ok (.iaload, 1) := by decide +kernel
theorem dX6_about_68 : decode cX6_about 68 = .ok (.ireturn, 1) := by decide +kernel
theorem dX6_about_69 : decode cX6_about 69 = .ok (.aload_n 0, 1) := by decide +kernel
theorem dX6_about_70 : decode cX6_about 70 = .ok (.getfield 22, 3) := by decide +kernel
theorem dX6_about_73 : decode cX6_about 73 = .ok (.bipush 21, 2) := by decide +kernel
theorem dX6_about_75 : decode cX6_about 75 = .ok (.iaload, 1) := by decide +kernel
theorem dX6_about_76 : decode cX6_about 76 = .ok (.ireturn, 1) := by decide +kernel
theorem dX6_about_77 : decode cX6_about 77 = .ok (.aload_n 0, 1) := by decide +kernel
theorem dX6_about_78 : decode cX6_about 78 = .ok (.getfield 22, 3) := by decide +kernel
theorem dX6_about_81 : decode cX6_about 81 = .ok (.bipush 22, 2) := by decide +kernel
theorem dX6_about_83 : decode cX6_about 83 = .ok (.iaload, 1) := by decide +kernel
theorem dX6_about_84 : decode cX6_about 84 = .ok (.ireturn, 1) := by decide +kernel
theorem dX6_about_85 : decode cX6_about 85 = .ok (.aload_n 0, 1) := by decide +kernel
theorem dX6_about_86 : decode cX6_about 86 = .ok (.getfield 22, 3) := by decide +kernel
theorem dX6_about_89 : decode cX6_about 89 = .ok (.bipush 23, 2) := by decide +kernel
theorem dX6_about_91 : decode cX6_about 91 = .ok (.iaload, 1) := by decide +kernel
theorem dX6_about_92 : decode cX6_about 92 = .ok (.ireturn, 1) := by decide +kernel
theorem dX6_about_93 : decode cX6_about 93 = .ok (.aload_n 0, 1) := by decide +kernel
theorem dX6_about_94 : decode cX6_about 94 = .ok (.getfield 22, 3) := by decide +kernel
theorem dX6_about_97 : decode cX6_about 97 = .ok (.bipush 24, 2) := by decide +kernel
theorem dX6_about_99 : decode cX6_about 99 = .ok (.iaload, 1) := by decide +kernel
theorem dX6_about_100 : decode cX6_about 100 = .ok (.ireturn, 1) := by decide +kernel
theorem dX6_about_101 : decode cX6_about 101 = .ok (.aload_n 0, 1) := by decide +kernel
theorem dX6_about_102 : decode cX6_about 102 = .ok (.getfield 94, 3) := by decide +kernel
theorem dX6_about_105 : decode cX6_about 105 = .ok (.ireturn, 1) := by decide +kernel
theorem dX6_about_106 : decode cX6_about 106 = .ok (.aload_n 0, 1) := by decide +kernel
theorem dX6_about_107 : decode cX6_about 107 = .ok (.getfield 113, 3) := by decide +kernel
theorem dX6_about_110 : decode cX6_about 110 = .ok (.ireturn, 1) := by decide +kernel
theorem dX6_about_111 : decode cX6_about 111 = .ok (.aload_n 0, 1) := by decide +kernel
theorem dX6_about_112 : decode cX6_about 112 = .ok (.getfield 66, 3) := by decide +kernel
theorem dX6_about_115 : decode cX6_about 115 = .ok (.ireturn, 1) := by decide +kernel
theorem dX6_about_116 : decode cX6_about 116 = .ok (.bipush (-2), 2) := by decide +kernel
theorem dX6_about_118 : decode cX6_about 118 = .ok (.ireturn, 1) := by decide +kernel
set_option maxRecDepth 20000 in
theorem ggX6_child_X6_noChild : GoodIn wsX6_child wsX6_noChild := goodIn_r _ [7, 2, 8, 9, 6, 10, 11, 12, 13, 14, 15, 16, 17, 18, 19, 20, 21, 22, 23, 24, 25, 26, 27, 28, 29, 30, 31, 32, 33, 34, 35, 36, 37, 38, 39, 40, 41, 42] (by decide +kernel) (by decide +kernel)
set_option maxRecDepth 20000 in
theorem gX6_child_X6_noChild : GoodIn wsX6_child (wsV RX6 116 RX6 yX6_noChild wsX6_noChild) := goodIn_app (goodIn_of _ (by decide +kernel)) ggX6_child_X6_noChild
theorem dX6_child_0 : decode cX6_child 0 = .ok (.aload_n 0, 1) := by decide +kernel
theorem dX6_child_1 : decode cX6_child 1 = .ok (.iconst 0, 1) := by decide +kernel
theorem dX6_child_2 : decode cX6_child 2 = .ok (.putfield 53, 3) := by decide +kernel
theorem dX6_child_5 : decode cX6_child 5 = .ok (.aload_n 0, 1) := by decide +kernel
theorem dX6_child_6 : decode cX6_child 6 = .ok (.iload_n 1, 1) := by decide +kernel
theorem dX6_child_7 : decode cX6_child 7 = .ok (.invokevirtual 116, 3) := by decide +kernel
theorem dX6_child_10 : decode cX6_child 10 = .ok (.ifCond .eq 5, 3) := by decide +kernel
theorem dX6_child_13 : decode cX6_child 13 = .ok (.iconst (-1), 1) := by decide +kernel
theorem dX6_child_14 : decode cX6_child 14 = .ok (.ireturn, 1) := by decide +kernel
theorem dX6_child_15 : decode cX6_child 15 = .ok (.iload_n 2, 1) := by decide +kernel
theorem dX6_child_16 : decode cX6_child 16 = .ok (.tableswitch 87 0 4 #[36, 45, 55, 65, 75], 36) := by decide +kernel
theorem dX6_child_52 : decode cX6_child 52 = .ok (.aload_n 0, 1) := by decide +kernel
theorem dX6_child_53 : decode cX6_child 53 = .ok (.getfield 22, 3) := by decide +kernel
theorem dX6_child_56 : decode cX6_child 56 = .ok (.iconst 0, 1) := by decide +kernel
theorem dX6_child_57 : decode cX6_child 57 = .ok (.iload_n 1, 1) := by decide +kernel
theorem dX6_child_58 : decode cX6_child 58 = .ok (.iadd, 1) := by decide +kernel
theorem dX6_child_59 : decode cX6_child 59 = .ok (.iaload, 1) := by decide +kernel
theorem dX6_child_60 : decode cX6_child 60 = .ok (.ireturn, 1) := by decide +kernel
theorem dX6_child_61 : decode cX6_child 61 = .ok (.aload_n 0, 1) := by decide +kernel
theorem dX6_child_62 : decode cX6_child 62 = .ok (.getfield 22, 3) := by decide +kernel
theorem dX6_child_65 : decode cX6_child 65 = .ok (.bipush 7, 2) := by decide +kernel
theorem dX6_child_67 : decode cX6_child 67 = .ok (.iload_n 1, 1) := by decide +kernel
theorem dX6_child_68 : decode cX6_child 68 = .ok (.iadd, 1) := by decide +kernel
theorem dX6_child_69 : decode cX6_child 69 = .ok (.iaload, 1) := by decide +kernel
theorem dX6_child_70 : decode cX6_child 70 = .ok (.ireturn, 1) := by decide +kernel
theorem dX6_child_71 : decode cX6_child 71 = .ok (.aload_n 0, 1) := by decide +kernel
theorem dX6_child_72 : decode cX6_child 72 = .ok (.getfield 22, 3) := by decide +kernel
theorem dX6_child_75 : decode cX6_child 75 = .ok (.bipush 26, 2) := by decide +kernel
theorem dX6_child_77 : decode cX6_child 77 = .ok (.iload_n 1, 1) := by decide +kernel
theorem dX6_child_78 : decode cX6_child 78 = .ok (.iadd, 1) := by decide +kernel
theorem dX6_child_79 : decode cX6_child 79 = .ok (.iaload, 1) := by decide +kernel
theorem dX6_child_80 : decode cX6_child 80 = .ok (.ireturn, 1) := by decide +kernel
theorem dX6_child_81 : decode cX6_child 81 = .ok (.aload_n 0, 1) := by decide +kernel
theorem dX6_child_82 : decode cX6_child 82 = .ok (.getfield 22, 3) := by decide +kernel
theorem dX6_child_85 : decode cX6_child 85 = .ok (.bipush 14, 2) := by decide +kernel
theorem dX6_child_87 : decode cX6_child 87 = .ok (.iload_n 1, 1) := by decide +kernel
theorem dX6_child_88 : decode cX6_child 88 = .ok (.iadd, 1) := by decide +kernel
theorem dX6_child_89 : decode cX6_child 89 = .ok (.iaload, 1) := by decide +kernel
theorem dX6_child_90 : decode cX6_child 90 = .ok (.ireturn, 1) := by decide +kernel
theorem dX6_child_91 : decode cX6_child 91 = .ok (.aload_n 0, 1) := by decide +kernel
theorem dX6_child_92 : decode cX6_child 92 = .ok (.getfield 22, 3) := by decide +kernel
theorem dX6_child_95 : decode cX6_child 95 = .ok (.bipush 21, 2) := by decide +kernel
theorem dX6_child_97 : decode cX6_child 97 = .ok (.iaload, 1) := by decide +kernel
theorem dX6_child_98 : decode cX6_child 98 = .ok (.iload_n 1, 1) := by decide +kernel
theorem dX6_child_99 : decode cX6_child 99 = .ok (.ishr, 1) := by decide +kernel
theorem dX6_child_100 : decode cX6_child 100 = .ok (.iconst 1, 1) := by decide +kernel
theorem dX6_child_101 : decode cX6_child 101 = .ok (.iand, 1) := by decide +kernel
theorem dX6_child_102 : decode cX6_child 102 = .ok (.ireturn, 1) := by decide +kernel
theorem dX6_child_103 : decode cX6_child 103 = .ok (.bipush (-2), 2) := by decide +kernel
theorem dX6_child_105 : decode cX6_child 105 = .ok (.ireturn, 1) := by decide +kernel
set_option maxRecDepth 20000 in
theorem ggX6_heirs_X6_noHouse : GoodIn wsX6_heirs wsX6_noHouse := goodIn_r _ [8, 9, 10, 11, 7, 12, 28, 29, 30, 31, 32, 33, 34, 35, 36, 37, 38, 39, 40, 41, 42, 43, 44, 45, 46, 47, 48, 49, 50, 51, 52, 53, 54, 55, 56, 57, 58, 59] (by decide +kernel) (by decide +kernel)
set_option maxRecDepth 20000 in
theorem gX6_heirs_X6_noHouse : GoodIn wsX6_heirs (wsV RX6 120 RX6 yX6_noHouse wsX6_noHouse) := goodIn_app (goodIn_of _ (by decide +kernel)) ggX6_heirs_X6_noHouse
set_option maxRecDepth 20000 in
theorem ggX6_heirs_X6_in : GoodIn wsX6_heirs wsX6_in := goodIn_r _ [12] (by decide +kernel) (by decide +kernel)
set_option maxRecDepth 20000 in
theorem gX6_heirs_X6_in : GoodIn wsX6_heirs (va_wsS RX6 60 yX6_in wsX6_in) := goodIn_app (goodIn_of _ (by decide +kernel)) ggX6_heirs_X6_in
set_option maxRecDepth 20000 in
theorem ggX6_heirs_X6_heirsNow : GoodIn wsX6_heirs wsX6_heirsNow := goodIn_r _ [15, 16, 17, 7, 18, 19, 20, 21, 22, 23, 24, 25, 26, 27] (by decide +kernel) (by decide +kernel)
set_option maxRecDepth 20000 in
theorem gX6_heirs_X6_heirsNow : GoodIn wsX6_heirs (va_wsS RX6 125 yX6_heirsNow wsX6_heirsNow) := goodIn_app (goodIn_of _ (by decide +kernel)) ggX6_heirs_X6_heirsNow
set_option maxRecDepth 20000 in
theorem ggX6_heirs_X6_heirsOf : GoodIn wsX6_heirs wsX6_heirsOf := goodIn_r _ [18, 19, 20, 7, 21, 22, 23, 24, 25, 26, 27] (by decide +kernel) (by decide +kernel)
set_option maxRecDepth 20000 in
theorem gX6_heirs_X6_heirsOf : GoodIn wsX6_heirs (va_wsS RX6 109 yX6_heirsOf wsX6_heirsOf) := goodIn_app (goodIn_of _ (by decide +kernel)) ggX6_heirs_X6_heirsOf
theorem dX6_heirs_0 : decode cX6_heirs 0 = .ok (.aload_n 0, 1) := by decide +kernel
theorem dX6_heirs_1 : decode cX6_heirs 1 = .ok (.iconst 0, 1) := by decide +kernel
theorem dX6_heirs_2 : decode cX6_heirs 2 = .ok (.putfield 53, 3) := by decide +kernel
theorem dX6_heirs_5 : decode cX6_heirs 5 = .ok (.aload_n 0, 1) := by decide +kernel
theorem dX6_heirs_6 : decode cX6_heirs 6 = .ok (.iload_n 1, 1) := by decide +kernel
theorem dX6_heirs_7 : decode cX6_heirs 7 = .ok (.invokevirtual 120, 3) := by decide +kernel
theorem dX6_heirs_10 : decode cX6_heirs 10 = .ok (.ifCond .eq 5, 3) := by decide +kernel
theorem dX6_heirs_13 : decode cX6_heirs 13 = .ok (.iconst (-1), 1) := by decide +kernel
theorem dX6_heirs_14 : decode cX6_heirs 14 = .ok (.ireturn, 1) := by decide +kernel
theorem dX6_heirs_15 : decode cX6_heirs 15 = .ok (.iload_n 2, 1) := by decide +kernel
theorem dX6_heirs_16 : decode cX6_heirs 16 = .ok (.i2l, 1) := by decide +kernel
theorem dX6_heirs_17 : decode cX6_heirs 17 = .ok (.lconst 0, 1) := by decide +kernel
theorem dX6_heirs_18 : decode cX6_heirs 18 = .ok (.ldc2_w 123, 3) := by decide +kernel
theorem dX6_heirs_21 : decode cX6_heirs 21 = .ok (.invokestatic 60, 3) := by decide +kernel
theorem dX6_heirs_24 : decode cX6_heirs 24 = .ok (.ifCond .ne 6, 3) := by decide +kernel
theorem dX6_heirs_27 : decode cX6_heirs 27 = .ok (.bipush (-2), 2) := by decide +kernel
theorem dX6_heirs_29 : decode cX6_heirs 29 = .ok (.ireturn, 1) := by decide +kernel
theorem dX6_heirs_30 : decode cX6_heirs 30 = .ok (.iload_n 2, 1) := by decide +kernel
theorem dX6_heirs_31 : decode cX6_heirs 31 = .ok (.iconst 2, 1) := by decide +kernel
theorem dX6_heirs_32 : decode cX6_heirs 32 = .ok (.if_icmp .ne 14, 3) := by decide +kernel
theorem dX6_heirs_35 : decode cX6_heirs 35 = .ok (.aload_n 0, 1) := by decide +kernel
theorem dX6_heirs_36 : decode cX6_heirs 36 = .ok (.getfield 22, 3) := by decide +kernel
theorem dX6_heirs_39 : decode cX6_heirs 39 = .ok (.iload_n 1, 1) := by decide +kernel
theorem dX6_heirs_40 : decode cX6_heirs 40 = .ok (.invokestatic 125, 3) := by decide +kernel
theorem dX6_heirs_43 : decode cX6_heirs 43 = .ok (.goto 19, 3) := by decide +kernel
theorem dX6_heirs_46 : decode cX6_heirs 46 = .ok (.aload_n 0, 1) := by decide +kernel
theorem dX6_heirs_47 : decode cX6_heirs 47 = .ok (.getfield 22, 3) := by decide +kernel
theorem dX6_heirs_50 : decode cX6_heirs 50 = .ok (.iload_n 1, 1) := by decide +kernel
theorem dX6_heirs_51 : decode cX6_heirs 51 = .ok (.iload_n 2, 1) := by decide +kernel
theorem dX6_heirs_52 : decode cX6_heirs 52 = .ok (.aload_n 0, 1) := by decide +kernel
theorem dX6_heirs_53 : decode cX6_heirs 53 = .ok (.getfield 22, 3) := by decide +kernel
theorem dX6_heirs_56 : decode cX6_heirs 56 = .ok (.bipush 21, 2) := by decide +kernel
theorem dX6_heirs_58 : decode cX6_heirs 58 = .ok (.iaload, 1) := by decide +kernel
theorem dX6_heirs_59 : decode cX6_heirs 59 = .ok (.invokestatic 109, 3) := by decide +kernel
theorem dX6_heirs_62 : decode cX6_heirs 62 = .ok (.ireturn, 1) := by decide +kernel
theorem dX6_note_0 : decode cX6_note 0 = .ok (.aload_n 0, 1) := by decide +kernel
theorem dX6_note_1 : decode cX6_note 1 = .ok (.getfield 94, 3) := by decide +kernel
theorem dX6_note_4 : decode cX6_note 4 = .ok (.bipush 14, 2) := by decide +kernel
theorem dX6_note_6 : decode cX6_note 6 = .ok (.if_icmp .ne 43, 3) := by decide +kernel
theorem dX6_note_9 : decode cX6_note 9 = .ok (.iconst 0, 1) := by decide +kernel
theorem dX6_note_10 : decode cX6_note 10 = .ok (.istore_n 1, 1) := by decide +kernel
theorem dX6_note_11 : decode cX6_note 11 = .ok (.iload_n 1, 1) := by decide +kernel
theorem dX6_note_12 : decode cX6_note 12 = .ok (.sipush 429, 3) := by decide +kernel
theorem dX6_note_15 : decode cX6_note 15 = .ok (.if_icmp .ge 24, 3) := by decide +kernel
theorem dX6_note_18 : decode cX6_note 18 = .ok (.aload_n 0, 1) := by decide +kernel
theorem dX6_note_19 : decode cX6_note 19 = .ok (.getfield 28, 3) := by decide +kernel
theorem dX6_note_22 : decode cX6_note 22 = .ok (.iload_n 1, 1) := by decide +kernel
theorem dX6_note_23 : decode cX6_note 23 = .ok (.aload_n 0, 1) := by decide +kernel
theorem dX6_note_24 : decode cX6_note 24 = .ok (.getfield 28, 3) := by decide +kernel
theorem dX6_note_27 : decode cX6_note 27 = .ok (.iload_n 1, 1) := by decide +kernel
theorem dX6_note_28 : decode cX6_note 28 = .ok (.bipush 33, 2) := by decide +kernel
theorem dX6_note_30 : decode cX6_note 30 = .ok (.iadd, 1) := by decide +kernel
theorem dX6_note_31 : decode cX6_note 31 = .ok (.iaload, 1) := by decide +kernel
theorem dX6_note_32 : decode cX6_note 32 = .ok (.iastore, 1) := by decide +kernel
theorem dX6_note_33 : decode cX6_note 33 = .ok (.iinc 1 1, 3) := by decide +kernel
theorem dX6_note_36 : decode cX6_note 36 = .ok (.goto (-25), 3) := by decide +kernel
theorem dX6_note_39 : decode cX6_note 39 = .ok (.aload_n 0, 1) := by decide +kernel
theorem dX6_note_40 : decode cX6_note 40 = .ok (.dup, 1) := by decide +kernel
theorem dX6_note_41 : decode cX6_note 41 = .ok (.getfield 94, 3) := by decide +kernel
theorem dX6_note_44 : decode cX6_note 44 = .ok (.iconst 1, 1) := by decide +kernel
theorem dX6_note_45 : decode cX6_note 45 = .ok (.isub, 1) := by decide +kernel
theorem dX6_note_46 : decode cX6_note 46 = .ok (.putfield 94, 3) := by decide +kernel
theorem dX6_note_49 : decode cX6_note 49 = .ok (.iconst 0, 1) := by decide +kernel
theorem dX6_note_50 : decode cX6_note 50 = .ok (.istore_n 1, 1) := by decide +kernel
theorem dX6_note_51 : decode cX6_note 51 = .ok (.iload_n 1, 1) := by decide +kernel
theorem dX6_note_52 : decode cX6_note 52 = .ok (.bipush 33, 2) := by decide +kernel
theorem dX6_note_54 : decode cX6_note 54 = .ok (.if_icmp .ge 29, 3) := by decide +kernel
theorem dX6_note_57 : decode cX6_note 57 = .ok (.aload_n 0, 1) := by decide +kernel
theorem dX6_note_58 : decode cX6_note 58 = .ok (.getfield 28, 3) := by decide +kernel
theorem dX6_note_61 : decode cX6_note 61 = .ok (.bipush 33, 2) := by decide +kernel
theorem dX6_note_63 : decode cX6_note 63 = .ok (.aload_n 0, 1) := by decide +kernel
theorem dX6_note_64 : decode cX6_note 64 = .ok (.getfield 94, 3) := by decide +kernel
theorem dX6_note_67 : decode cX6_note 67 = .ok (.imul, 1) := by decide +kernel
theorem dX6_note_68 : decode cX6_note 68 = .ok (.iload_n 1, 1) := by decide +kernel
theorem dX6_note_69 : decode cX6_note 69 = .ok (.iadd, 1) := by decide +kernel
theorem dX6_note_70 : decode cX6_note 70 = .ok (.aload_n 0, 1) := by decide +kernel
theorem dX6_note_71 : decode cX6_note 71 = .ok (.getfield 22, 3) := by decide +kernel
theorem dX6_note_74 : decode cX6_note 74 = .ok (.iload_n 1, 1) := by decide +kernel
theorem dX6_note_75 : decode cX6_note 75 = .ok (.iaload, 1) := by decide +kernel
theorem dX6_note_76 : decode cX6_note 76 = .ok (.iastore, 1) := by decide +kernel
theorem dX6_note_77 : decode cX6_note 77 = .ok (.iinc 1 1, 3) := by decide +kernel
theorem dX6_note_80 : decode cX6_note 80 = .ok (.goto (-29), 3) := by decide +kernel
theorem dX6_note_83 : decode cX6_note 83 = .ok (.aload_n 0, 1) := by decide +kernel
theorem dX6_note_84 : decode cX6_note 84 = .ok (.dup, 1) := by decide +kernel
theorem dX6_note_85 : decode cX6_note 85 = .ok (.getfield 94, 3) := by decide +kernel
theorem dX6_note_88 : decode cX6_note 88 = .ok (.iconst 1, 1) := by decide +kernel
theorem dX6_note_89 : decode cX6_note 89 = .ok (.iadd, 1) := by decide +kernel
theorem dX6_note_90 : decode cX6_note 90 = .ok (.putfield 94, 3) := by decide +kernel
theorem dX6_note_93 : decode cX6_note 93 = .ok (.return_, 1) := by decide +kernel
set_option maxRecDepth 20000 in
theorem ggX6_bear_X6_noHouse : GoodIn wsX6_bear wsX6_noHouse := goodIn_r _ [8, 9, 10, 11, 7, 12, 19, 20, 21, 22, 23, 24, 25, 26, 27, 28, 29, 30, 31, 32, 33, 34, 35, 36, 37, 38, 39, 40, 41, 42, 43, 44, 45, 46, 47, 48, 49, 50] (by decide +kernel) (by decide +kernel)
set_option maxRecDepth 20000 in
theorem gX6_bear_X6_noHouse : GoodIn wsX6_bear (wsV RX6 120 RX6 yX6_noHouse wsX6_noHouse) := goodIn_app (goodIn_of _ (by decide +kernel)) ggX6_bear_X6_noHouse
set_option maxRecDepth 20000 in
theorem ggX6_bear_X6_in : GoodIn wsX6_bear wsX6_in := goodIn_r _ [12] (by decide +kernel) (by decide +kernel)
set_option maxRecDepth 20000 in
theorem gX6_bear_X6_in : GoodIn wsX6_bear (va_wsS RX6 60 yX6_in wsX6_in) := goodIn_app (goodIn_of _ (by decide +kernel)) ggX6_bear_X6_in
set_option maxRecDepth 20000 in
theorem ggX6_bear_X6_note : GoodIn wsX6_bear wsX6_note := goodIn_r _ [16, 17, 18, 3, 19, 20, 21, 22, 23, 24, 25, 26, 27, 28, 29, 30, 31, 32, 33, 34, 35, 36, 37, 38, 39, 40, 41, 42, 43, 44, 45, 46, 47, 48, 49, 50] (by decide +kernel) (by decide +kernel)
set_option maxRecDepth 20000 in
theorem gX6_bear_X6_note : GoodIn wsX6_bear (wsV RX6 131 RX6 yX6_note wsX6_note) := goodIn_app (goodIn_of _ (by decide +kernel)) ggX6_bear_X6_note
theorem dX6_bear_0 : decode cX6_bear 0 = .ok (.aload_n 0, 1) := by decide +kernel
theorem dX6_bear_1 : decode cX6_bear 1 = .ok (.iconst 0, 1) := by decide +kernel
theorem dX6_bear_2 : decode cX6_bear 2 = .ok (.putfield 53, 3) := by decide +kernel
theorem dX6_bear_5 : decode cX6_bear 5 = .ok (.aload_n 0, 1) := by decide +kernel
theorem dX6_bear_6 : decode cX6_bear 6 = .ok (.iload_n 1, 1) := by decide +kernel
theorem dX6_bear_7 : decode cX6_bear 7 = .ok (.invokevirtual 120, 3) := by decide +kernel
theorem dX6_bear_10 : decode cX6_bear 10 = .ok (.ifCond .eq 5, 3) := by decide +kernel
theorem dX6_bear_13 : decode cX6_bear 13 = .ok (.iconst (-1), 1) := by decide +kernel
theorem dX6_bear_14 : decode cX6_bear 14 = .ok (.ireturn, 1) := by decide +kernel
theorem dX6_bear_15 : decode cX6_bear 15 = .ok (.iload_n 2, 1) := by decide +kernel
theorem dX6_bear_16 : decode cX6_bear 16 = .ok (.i2l, 1) := by decide +kernel
theorem dX6_bear_17 : decode cX6_bear 17 = .ok (.lconst 0, 1) := by decide +kernel
theorem dX6_bear_18 : decode cX6_bear 18 = .ok (.ldc2_w 129, 3) := by decide +kernel
theorem dX6_bear_21 : decode cX6_bear 21 = .ok (.invokestatic 60, 3) := by decide +kernel
theorem dX6_bear_24 : decode cX6_bear 24 = .ok (.ifCond .ne 6, 3) := by decide +kernel
theorem dX6_bear_27 : decode cX6_bear 27 = .ok (.bipush (-2), 2) := by decide +kernel
theorem dX6_bear_29 : decode cX6_bear 29 = .ok (.ireturn, 1) := by decide +kernel
theorem dX6_bear_30 : decode cX6_bear 30 = .ok (.aload_n 0, 1) := by decide +kernel
theorem dX6_bear_31 : decode cX6_bear 31 = .ok (.getfield 22, 3) := by decide +kernel
theorem dX6_bear_34 : decode cX6_bear 34 = .ok (.bipush 25, 2) := by decide +kernel
theorem dX6_bear_36 : decode cX6_bear 36 = .ok (.iaload, 1) := by decide +kernel
theorem dX6_bear_37 : decode cX6_bear 37 = .ok (.istore_n 3, 1) := by decide +kernel
theorem dX6_bear_38 : decode cX6_bear 38 = .ok (.iload_n 3, 1) := by decide +kernel
theorem dX6_bear_39 : decode cX6_bear 39 = .ok (.bipush 7, 2) := by decide +kernel
theorem dX6_bear_41 : decode cX6_bear 41 = .ok (.if_icmp .ne 6, 3) := by decide +kernel
theorem dX6_bear_44 : decode cX6_bear 44 = .ok (.bipush (-4), 2) := by decide +kernel
theorem dX6_bear_46 : decode cX6_bear 46 = .ok (.ireturn, 1) := by decide +kernel
theorem dX6_bear_47 : decode cX6_bear 47 = .ok (.aload_n 0, 1) := by decide +kernel
theorem dX6_bear_48 : decode cX6_bear 48 = .ok (.invokevirtual 131, 3) := by decide +kernel
theorem dX6_bear_51 : decode cX6_bear 51 = .ok (.aload_n 0, 1) := by decide +kernel
theorem dX6_bear_52 : decode cX6_bear 52 = .ok (.getfield 22, 3) := by decide +kernel
theorem dX6_bear_55 : decode cX6_bear 55 = .ok (.iconst 0, 1) := by decide +kernel
theorem dX6_bear_56 : decode cX6_bear 56 = .ok (.iload_n 3, 1) := by decide +kernel
theorem dX6_bear_57 : decode cX6_bear 57 = .ok (.iadd, 1) := by decide +kernel
theorem dX6_bear_58 : decode cX6_bear 58 = .ok (.iconst 0, 1) := by decide +kernel
theorem dX6_bear_59 : decode cX6_bear 59 = .ok (.iastore, 1) := by decide +kernel
theorem dX6_bear_60 : decode cX6_bear 60 = .ok (.aload_n 0, 1) := by decide +kernel
theorem dX6_bear_61 : decode cX6_bear 61 = .ok (.getfield 22, 3) := by decide +kernel
theorem dX6_bear_64 : decode cX6_bear 64 = .ok (.bipush 7, 2) := by decide +kernel
theorem dX6_bear_66 : decode cX6_bear 66 = .ok (.iload_n 3, 1) := by decide +kernel
theorem dX6_bear_67 : decode cX6_bear 67 = .ok (.iadd, 1) := by decide +kernel
theorem dX6_bear_68 : decode cX6_bear 68 = .ok (.iload_n 1, 1) := by decide +kernel
theorem dX6_bear_69 : decode cX6_bear 69 = .ok (.iastore, 1) := by decide +kernel
theorem dX6_bear_70 : decode cX6_bear 70 = .ok (.aload_n 0, 1) := by decide +kernel
theorem dX6_bear_71 : decode cX6_bear 71 = .ok (.getfield 22, 3) := by decide +kernel
theorem dX6_bear_74 : decode cX6_bear 74 = .ok (.bipush 26, 2) := by decide +kernel
theorem dX6_bear_76 : decode cX6_bear 76 = .ok (.iload_n 3, 1) := by decide +kernel
theorem dX6_bear_77 : decode cX6_bear 77 = .ok (.iadd, 1) := by decide +kernel
theorem dX6_bear_78 : decode cX6_bear 78 = .ok (.iload_n 2, 1) := by decide +kernel
theorem dX6_bear_79 : decode cX6_bear 79 = .ok (.iastore, 1) := by decide +kernel
theorem dX6_bear_80 : decode cX6_bear 80 = .ok (.aload_n 0, 1) := by decide +kernel
theorem dX6_bear_81 : decode cX6_bear 81 = .ok (.getfield 22, 3) := by decide +kernel
theorem dX6_bear_84 : decode cX6_bear 84 = .ok (.bipush 14, 2) := by decide +kernel
theorem dX6_bear_86 : decode cX6_bear 86 = .ok (.iload_n 3, 1) := by decide +kernel
theorem dX6_bear_87 : decode cX6_bear 87 = .ok (.iadd, 1) := by decide +kernel
theorem dX6_bear_88 : decode cX6_bear 88 = .ok (.iconst 0, 1) := by decide +kernel
theorem dX6_bear_89 : decode cX6_bear 89 = .ok (.iastore, 1) := by decide +kernel
theorem dX6_bear_90 : decode cX6_bear 90 = .ok (.aload_n 0, 1) := by decide +kernel
theorem dX6_bear_91 : decode cX6_bear 91 = .ok (.getfield 22, 3) := by decide +kernel
theorem dX6_bear_94 : decode cX6_bear 94 = .ok (.bipush 21, 2) := by decide +kernel
theorem dX6_bear_96 : decode cX6_bear 96 = .ok (.dup2, 1) := by decide +kernel
theorem dX6_bear_97 : decode cX6_bear 97 = .ok (.iaload, 1) := by decide +kernel
theorem dX6_bear_98 : decode cX6_bear 98 = .ok (.iconst 1, 1) := by decide +kernel
theorem dX6_bear_99 : decode cX6_bear 99 = .ok (.iload_n 3, 1) := by decide +kernel
theorem dX6_bear_100 : decode cX6_bear 100 = .ok (.ishl, 1) := by decide +kernel
theorem dX6_bear_101 : decode cX6_bear 101 = .ok (.ior, 1) := by decide +kernel
theorem dX6_bear_102 : decode cX6_bear 102 = .ok (.iastore, 1) := by decide +kernel
theorem dX6_bear_103 : decode cX6_bear 103 = .ok (.aload_n 0, 1) := by decide +kernel
theorem dX6_bear_104 : decode cX6_bear 104 = .ok (.getfield 22, 3) := by decide +kernel
theorem dX6_bear_107 : decode cX6_bear 107 = .ok (.bipush 25, 2) := by decide +kernel
theorem dX6_bear_109 : decode cX6_bear 109 = .ok (.dup2, 1) := by decide +kernel
theorem dX6_bear_110 : decode cX6_bear 110 = .ok (.iaload, 1) := by decide +kernel
theorem dX6_bear_111 : decode cX6_bear 111 = .ok (.iconst 1, 1) := by decide +kernel
theorem dX6_bear_112 : decode cX6_bear 112 = .ok (.iadd, 1) := by decide +kernel
theorem dX6_bear_113 : decode cX6_bear 113 = .ok (.iastore, 1) := by decide +kernel
theorem dX6_bear_114 : decode cX6_bear 114 = .ok (.iload_n 3, 1) := by decide +kernel
theorem dX6_bear_115 : decode cX6_bear 115 = .ok (.ireturn, 1) := by decide +kernel
set_option maxRecDepth 20000 in
theorem ggX6_die_X6_noChild : GoodIn wsX6_die wsX6_noChild := goodIn_r _ [7, 2, 8, 9, 6, 10, 23, 24, 25, 26, 27, 28, 29, 30, 31, 32, 33, 34, 35, 36, 37, 38, 39, 40, 41, 42, 43, 44, 45, 46, 47, 48, 49, 50, 51, 52, 53, 54] (by decide +kernel) (by decide +kernel)
set_option maxRecDepth 20000 in
theorem gX6_die_X6_noChild : GoodIn wsX6_die (wsV RX6 116 RX6 yX6_noChild wsX6_noChild) := goodIn_app (goodIn_of _ (by decide +kernel)) ggX6_die_X6_noChild
set_option maxRecDepth 20000 in
theorem ggX6_die_X6_has : GoodIn wsX6_die wsX6_has := goodIn_r _ [13] (by decide +kernel) (by decide +kernel)
set_option maxRecDepth 20000 in
theorem gX6_die_X6_has : GoodIn wsX6_die (va_wsS RX6 97 yX6_has wsX6_has) := goodIn_app (goodIn_of _ (by decide +kernel)) ggX6_die_X6_has
set_option maxRecDepth 20000 in
theorem ggX6_die_X6_note : GoodIn wsX6_die wsX6_note := goodIn_r _ [17, 18, 19, 2, 23, 24, 25, 26, 27, 28, 29, 30, 31, 32, 33, 34, 35, 36, 37, 38, 39, 40, 41, 42, 43, 44, 45, 46, 47, 48, 49, 50, 51, 52, 53, 54] (by decide +kernel) (by decide +kernel)
set_option maxRecDepth 20000 in
theorem gX6_die_X6_note : GoodIn wsX6_die (wsV RX6 131 RX6 yX6_note wsX6_note) := goodIn_app (goodIn_of _ (by decide +kernel)) ggX6_die_X6_note
set_option maxRecDepth 20000 in
theorem ggX6_die_X6_many : GoodIn wsX6_die wsX6_many := goodIn_r _ [22] (by decide +kernel) (by decide +kernel)
set_option maxRecDepth 20000 in
theorem gX6_die_X6_many : GoodIn wsX6_die (va_wsS RX6 134 yX6_many wsX6_many) := goodIn_app (goodIn_of _ (by decide +kernel)) ggX6_die_X6_many
theorem dX6_die_0 : decode cX6_die 0 = .ok (.aload_n 0, 1) := by decide +kernel
theorem dX6_die_1 : decode cX6_die 1 = .ok (.iconst 0, 1) := by decide +kernel
theorem dX6_die_2 : decode cX6_die 2 = .ok (.putfield 53, 3) := by decide +kernel
theorem dX6_die_5 : decode cX6_die 5 = .ok (.aload_n 0, 1) := by decide +kernel
theorem dX6_die_6 : decode cX6_die 6 = .ok (.iload_n 1, 1) := by decide +kernel
theorem dX6_die_7 : decode cX6_die 7 = .ok (.invokevirtual 116, 3) := by decide +kernel
theorem dX6_die_10 : decode cX6_die 10 = .ok (.ifCond .eq 5, 3) := by decide +kernel
theorem dX6_die_13 : decode cX6_die 13 = .ok (.iconst (-1), 1) := by decide +kernel
theorem dX6_die_14 : decode cX6_die 14 = .ok (.ireturn, 1) := by decide +kernel
theorem dX6_die_15 : decode cX6_die 15 = .ok (.aload_n 0, 1) := by decide +kernel
theorem dX6_die_16 : decode cX6_die 16 = .ok (.getfield 22, 3) := by decide +kernel
theorem dX6_die_19 : decode cX6_die 19 = .ok (.bipush 21, 2) := by decide +kernel
theorem dX6_die_21 : decode cX6_die 21 = .ok (.iaload, 1) := by decide +kernel
theorem dX6_die_22 : decode cX6_die 22 = .ok (.iload_n 1, 1) := by decide +kernel
theorem dX6_die_23 : decode cX6_die 23 = .ok (.invokestatic 97, 3) := by decide +kernel
theorem dX6_die_26 : decode cX6_die 26 = .ok (.ifCond .ne 6, 3) := by decide +kernel
theorem dX6_die_29 : decode cX6_die 29 = .ok (.bipush (-3), 2) := by decide +kernel
theorem dX6_die_31 : decode cX6_die 31 = .ok (.ireturn, 1) := by decide +kernel
theorem dX6_die_32 : decode cX6_die 32 = .ok (.aload_n 0, 1) := by decide +kernel
theorem dX6_die_33 : decode cX6_die 33 = .ok (.invokevirtual 131, 3) := by decide +kernel
theorem dX6_die_36 : decode cX6_die 36 = .ok (.aload_n 0, 1) := by decide +kernel
theorem dX6_die_37 : decode cX6_die 37 = .ok (.getfield 22, 3) := by decide +kernel
theorem dX6_die_40 : decode cX6_die 40 = .ok (.bipush 21, 2) := by decide +kernel
theorem dX6_die_42 : decode cX6_die 42 = .ok (.dup2, 1) := by decide +kernel
theorem dX6_die_43 : decode cX6_die 43 = .ok (.iaload, 1) := by decide +kernel
theorem dX6_die_44 : decode cX6_die 44 = .ok (.iconst 1, 1) := by decide +kernel
theorem dX6_die_45 : decode cX6_die 45 = .ok (.iload_n 1, 1) := by decide +kernel
theorem dX6_die_46 : decode cX6_die 46 = .ok (.ishl, 1) := by decide +kernel
theorem dX6_die_47 : decode cX6_die 47 = .ok (.iconst (-1), 1) := by decide +kernel
theorem dX6_die_48 : decode cX6_die 48 = .ok (.ixor, 1) := by decide +kernel
theorem dX6_die_49 : decode cX6_die 49 = .ok (.iand, 1) := by decide +kernel
theorem dX6_die_50 : decode cX6_die 50 = .ok (.iastore, 1) := by decide +kernel
theorem dX6_die_51 : decode cX6_die 51 = .ok (.aload_n 0, 1) := by decide +kernel
theorem dX6_die_52 : decode cX6_die 52 = .ok (.getfield 22, 3) := by decide +kernel
theorem dX6_die_55 : decode cX6_die 55 = .ok (.bipush 21, 2) := by decide +kernel
theorem dX6_die_57 : decode cX6_die 57 = .ok (.iaload, 1) := by decide +kernel
theorem dX6_die_58 : decode cX6_die 58 = .ok (.invokestatic 134, 3) := by decide +kernel
theorem dX6_die_61 : decode cX6_die 61 = .ok (.ireturn, 1) := by decide +kernel
set_option maxRecDepth 20000 in
theorem ggX6_move_X6_noChild : GoodIn wsX6_move wsX6_noChild := goodIn_r _ [7, 2, 8, 9, 6, 10, 22, 23, 24, 25, 26, 27, 28, 29, 30, 31, 32, 33, 34, 35, 36, 37, 38, 39, 40, 41, 42, 43, 44, 45, 46, 47, 48, 49, 50, 51, 52, 53] (by decide +kernel) (by decide +kernel)
set_option maxRecDepth 20000 in
theorem gX6_move_X6_noChild : GoodIn wsX6_move (wsV RX6 116 RX6 yX6_noChild wsX6_noChild) := goodIn_app (goodIn_of _ (by decide +kernel)) ggX6_move_X6_noChild
set_option maxRecDepth 20000 in
theorem ggX6_move_X6_noHouse : GoodIn wsX6_move wsX6_noHouse := goodIn_r _ [14, 15, 8, 9, 6, 10, 22, 23, 24, 25, 26, 27, 28, 29, 30, 31, 32, 33, 34, 35, 36, 37, 38, 39, 40, 41, 42, 43, 44, 45, 46, 47, 48, 49, 50, 51, 52, 53] (by decide +kernel) (by decide +kernel)
set_option maxRecDepth 20000 in
theorem gX6_move_X6_noHouse : GoodIn wsX6_move (wsV RX6 120 RX6 yX6_noHouse wsX6_noHouse) := goodIn_app (goodIn_of _ (by decide +kernel)) ggX6_move_X6_noHouse
set_option maxRecDepth 20000 in
theorem ggX6_move_X6_note : GoodIn wsX6_move wsX6_note := goodIn_r _ [19, 20, 21, 2, 22, 23, 24, 25, 26, 27, 28, 29, 30, 31, 32, 33, 34, 35, 36, 37, 38, 39, 40, 41, 42, 43, 44, 45, 46, 47, 48, 49, 50, 51, 52, 53] (by decide +kernel) (by decide +kernel)
set_option maxRecDepth 20000 in
theorem gX6_move_X6_note : GoodIn wsX6_move (wsV RX6 131 RX6 yX6_note wsX6_note) := goodIn_app (goodIn_of _ (by decide +kernel)) ggX6_move_X6_note
theorem dX6_move_0 : decode cX6_move 0 = .ok (.aload_n 0, 1) := by decide +kernel
theorem dX6_move_1 : decode cX6_move 1 = .ok (.iconst 0, 1) := by decide +kernel
theorem dX6_move_2 : decode cX6_move 2 = .ok (.putfield 53, 3) := by decide +kernel
theorem dX6_move_5 : decode cX6_move 5 = .ok (.aload_n 0, 1) := by decide +kernel
theorem dX6_move_6 : decode cX6_move 6 = .ok (.iload_n 1, 1) := by decide +kernel
theorem dX6_move_7 : decode cX6_move 7 = .ok (.invokevirtual 116, 3) := by decide +kernel
theorem dX6_move_10 : decode cX6_move 10 = .ok (.ifCond .ne 11, 3) := by decide +kernel
theorem dX6_move_13 : decode cX6_move 13 = .ok (.aload_n 0, 1) := by decide +kernel
theorem dX6_move_14 : decode cX6_move 14 = .ok (.iload_n 2, 1) := by decide +kernel
theorem dX6_move_15 : decode cX6_move 15 = .ok (.invokevirtual 120, 3) := by decide +kernel
theorem dX6_move_18 : decode cX6_move 18 = .ok (.ifCond .eq 5, 3) := by decide +kernel
theorem dX6_move_21 : decode cX6_move 21 = .ok (.iconst (-1), 1) := by decide +kernel
theorem dX6_move_22 : decode cX6_move 22 = .ok (.ireturn, 1) := by decide +kernel
theorem dX6_move_23 : decode cX6_move 23 = .ok (.aload_n 0, 1) := by decide +kernel
theorem dX6_move_24 : decode cX6_move 24 = .ok (.getfield 22, 3) := by decide +kernel
theorem dX6_move_27 : decode cX6_move 27 = .ok (.bipush 7, 2) := by decide +kernel
theorem dX6_move_29 : decode cX6_move 29 = .ok (.iload_n 1, 1) := by decide +kernel
theorem dX6_move_30 : decode cX6_move 30 = .ok (.iadd, 1) := by decide +kernel
theorem dX6_move_31 : decode cX6_move 31 = .ok (.iaload, 1) := by decide +kernel
theorem dX6_move_32 : decode cX6_move 32 = .ok (.istore_n 3, 1) := by decide +kernel
theorem dX6_move_33 : decode cX6_move 33 = .ok (.iload_n 3, 1) := by decide +kernel
theorem dX6_move_34 : decode cX6_move 34 = .ok (.iload_n 2, 1) := by decide +kernel
theorem dX6_move_35 : decode cX6_move 35 = .ok (.if_icmp .ne 6, 3) := by decide +kernel
theorem dX6_move_38 : decode cX6_move 38 = .ok (.bipush (-3), 2) := by decide +kernel
theorem dX6_move_40 : decode cX6_move 40 = .ok (.ireturn, 1) := by decide +kernel
theorem dX6_move_41 : decode cX6_move 41 = .ok (.aload_n 0, 1) := by decide +kernel
theorem dX6_move_42 : decode cX6_move 42 = .ok (.invokevirtual 131, 3) := by decide +kernel
theorem dX6_move_45 : decode cX6_move 45 = .ok (.aload_n 0, 1) := by decide +kernel
theorem dX6_move_46 : decode cX6_move 46 = .ok (.getfield 22, 3) := by decide +kernel
theorem dX6_move_49 : decode cX6_move 49 = .ok (.bipush 7, 2) := by decide +kernel
theorem dX6_move_51 : decode cX6_move 51 = .ok (.iload_n 1, 1) := by decide +kernel
theorem dX6_move_52 : decode cX6_move 52 = .ok (.iadd, 1) := by decide +kernel
theorem dX6_move_53 : decode cX6_move 53 = .ok (.iload_n 2, 1) := by decide +kernel
theorem dX6_move_54 : decode cX6_move 54 = .ok (.iastore, 1) := by decide +kernel
theorem dX6_move_55 : decode cX6_move 55 = .ok (.iload_n 3, 1) := by decide +kernel
theorem dX6_move_56 : decode cX6_move 56 = .ok (.ireturn, 1) := by decide +kernel
set_option maxRecDepth 20000 in
theorem ggX6_roll_X6_noHouse : GoodIn wsX6_roll wsX6_noHouse := goodIn_r _ [7, 8, 9, 10, 6, 11, 18, 19, 20, 21, 22, 23, 24, 25, 26, 27, 28, 29, 30, 31, 32, 33, 34, 35, 36, 37, 38, 39, 40, 41, 42, 43, 44, 45, 46, 47, 48, 49] (by decide +kernel) (by decide +kernel)
set_option maxRecDepth 20000 in
theorem gX6_roll_X6_noHouse : GoodIn wsX6_roll (wsV RX6 120 RX6 yX6_noHouse wsX6_noHouse) := goodIn_app (goodIn_of _ (by decide +kernel)) ggX6_roll_X6_noHouse
set_option maxRecDepth 20000 in
theorem ggX6_roll_X6_note : GoodIn wsX6_roll wsX6_note := goodIn_r _ [15, 16, 17, 2, 18, 19, 20, 21, 22, 23, 24, 25, 26, 27, 28, 29, 30, 31, 32, 33, 34, 35, 36, 37, 38, 39, 40, 41, 42, 43, 44, 45, 46, 47, 48, 49] (by decide +kernel) (by decide +kernel)
set_option maxRecDepth 20000 in
theorem gX6_roll_X6_note : GoodIn wsX6_roll (wsV RX6 131 RX6 yX6_note wsX6_note) := goodIn_app (goodIn_of _ (by decide +kernel)) ggX6_roll_X6_note
theorem dX6_roll_0 : decode cX6_roll 0 = .ok (.aload_n 0, 1) := by decide +kernel
theorem dX6_roll_1 : decode cX6_roll 1 = .ok (.iconst 0, 1) := by decide +kernel
theorem dX6_roll_2 : decode cX6_roll 2 = .ok (.putfield 53, 3) := by decide +kernel
theorem dX6_roll_5 : decode cX6_roll 5 = .ok (.aload_n 0, 1) := by decide +kernel
theorem dX6_roll_6 : decode cX6_roll 6 = .ok (.iload_n 1, 1) := by decide +kernel
theorem dX6_roll_7 : decode cX6_roll 7 = .ok (.invokevirtual 120, 3) := by decide +kernel
theorem dX6_roll_10 : decode cX6_roll 10 = .ok (.ifCond .eq 5, 3) := by decide +kernel
theorem dX6_roll_13 : decode cX6_roll 13 = .ok (.iconst (-1), 1) := by decide +kernel
theorem dX6_roll_14 : decode cX6_roll 14 = .ok (.ireturn, 1) := by decide +kernel
theorem dX6_roll_15 : decode cX6_roll 15 = .ok (.aload_n 0, 1) := by decide +kernel
theorem dX6_roll_16 : decode cX6_roll 16 = .ok (.invokevirtual 131, 3) := by decide +kernel
theorem dX6_roll_19 : decode cX6_roll 19 = .ok (.aload_n 0, 1) := by decide +kernel
theorem dX6_roll_20 : decode cX6_roll 20 = .ok (.getfield 22, 3) := by decide +kernel
theorem dX6_roll_23 : decode cX6_roll 23 = .ok (.bipush 22, 2) := by decide +kernel
theorem dX6_roll_25 : decode cX6_roll 25 = .ok (.dup2, 1) := by decide +kernel
theorem dX6_roll_26 : decode cX6_roll 26 = .ok (.iaload, 1) := by decide +kernel
theorem dX6_roll_27 : decode cX6_roll 27 = .ok (.iconst 1, 1) := by decide +kernel
theorem dX6_roll_28 : decode cX6_roll 28 = .ok (.iload_n 1, 1) := by decide +kernel
theorem dX6_roll_29 : decode cX6_roll 29 = .ok (.ishl, 1) := by decide +kernel
theorem dX6_roll_30 : decode cX6_roll 30 = .ok (.ixor, 1) := by decide +kernel
theorem dX6_roll_31 : decode cX6_roll 31 = .ok (.iastore, 1) := by decide +kernel
theorem dX6_roll_32 : decode cX6_roll 32 = .ok (.aload_n 0, 1) := by decide +kernel
theorem dX6_roll_33 : decode cX6_roll 33 = .ok (.getfield 22, 3) := by decide +kernel
theorem dX6_roll_36 : decode cX6_roll 36 = .ok (.bipush 22, 2) := by decide +kernel
theorem dX6_roll_38 : decode cX6_roll 38 = .ok (.iaload, 1) := by decide +kernel
theorem dX6_roll_39 : decode cX6_roll 39 = .ok (.iload_n 1, 1) := by decide +kernel
theorem dX6_roll_40 : decode cX6_roll 40 = .ok (.ishr, 1) := by decide +kernel
theorem dX6_roll_41 : decode cX6_roll 41 = .ok (.iconst 1, 1) := by decide +kernel
theorem dX6_roll_42 : decode cX6_roll 42 = .ok (.iand, 1) := by decide +kernel
theorem dX6_roll_43 : decode cX6_roll 43 = .ok (.ireturn, 1) := by decide +kernel
set_option maxRecDepth 20000 in
theorem ggX6_goInherit_X6_has : GoodIn wsX6_goInherit wsX6_has := goodIn_r _ [5] (by decide +kernel) (by decide +kernel)
set_option maxRecDepth 20000 in
theorem gX6_goInherit_X6_has : GoodIn wsX6_goInherit (va_wsS RX6 97 yX6_has wsX6_has) := goodIn_app (goodIn_of _ (by decide +kernel)) ggX6_goInherit_X6_has
set_option maxRecDepth 20000 in
theorem ggX6_goInherit_X6_many : GoodIn wsX6_goInherit wsX6_many := goodIn_r _ [8] (by decide +kernel) (by decide +kernel)
set_option maxRecDepth 20000 in
theorem gX6_goInherit_X6_many : GoodIn wsX6_goInherit (va_wsS RX6 134 yX6_many wsX6_many) := goodIn_app (goodIn_of _ (by decide +kernel)) ggX6_goInherit_X6_many
theorem dX6_goInherit_0 : decode cX6_goInherit 0 = .ok (.iconst 0, 1) := by decide +kernel
theorem dX6_goInherit_1 : decode cX6_goInherit 1 = .ok (.istore 4, 2) := by decide +kernel
theorem dX6_goInherit_3 : decode cX6_goInherit 3 = .ok (.iload 4, 2) := by decide +kernel
theorem dX6_goInherit_5 : decode cX6_goInherit 5 = .ok (.bipush 7, 2) := by decide +kernel
theorem dX6_goInherit_7 : decode cX6_goInherit 7 = .ok (.if_icmp .ge 43, 3) := by decide +kernel
theorem dX6_goInherit_10 : decode cX6_goInherit 10 = .ok (.aload_n 1, 1) := by decide +kernel
theorem dX6_goInherit_11 : decode cX6_goInherit 11 = .ok (.bipush 14, 2) := by decide +kernel
theorem dX6_goInherit_13 : decode cX6_goInherit 13 = .ok (.iload 4, 2) := by decide +kernel
theorem dX6_goInherit_15 : decode cX6_goInherit 15 = .ok (.iadd, 1) := by decide +kernel
theorem dX6_goInherit_16 : decode cX6_goInherit 16 = .ok (.dup2, 1) := by decide +kernel
theorem dX6_goInherit_17 : decode cX6_goInherit 17 = .ok (.iaload, 1) := by decide +kernel
theorem dX6_goInherit_18 : decode cX6_goInherit 18 = .ok (.iload_n 3, 1) := by decide +kernel
theorem dX6_goInherit_19 : decode cX6_goInherit 19 = .ok (.iload 4, 2) := by decide +kernel
theorem dX6_goInherit_21 : decode cX6_goInherit 21 = .ok (.invokestatic 97, 3) := by decide +kernel
theorem dX6_goInherit_24 : decode cX6_goInherit 24 = .ok (.ifCond .eq 17, 3) := by decide +kernel
theorem dX6_goInherit_27 : decode cX6_goInherit 27 = .ok (.aload_n 0, 1) := by decide +kernel
theorem dX6_goInherit_28 : decode cX6_goInherit 28 = .ok (.getfield 13, 3) := by decide +kernel
theorem dX6_goInherit_31 : decode cX6_goInherit 31 = .ok (.iload_n 2, 1) := by decide +kernel
theorem dX6_goInherit_32 : decode cX6_goInherit 32 = .ok (.iaload, 1) := by decide +kernel
theorem dX6_goInherit_33 : decode cX6_goInherit 33 = .ok (.iload_n 3, 1) := by decide +kernel
theorem dX6_goInherit_34 : decode cX6_goInherit 34 = .ok (.invokestatic 134, 3) := by decide +kernel
theorem dX6_goInherit_37 : decode cX6_goInherit 37 = .ok (.idiv, 1) := by decide +kernel
theorem dX6_goInherit_38 : decode cX6_goInherit 38 = .ok (.goto 4, 3) := by decide +kernel
theorem dX6_goInherit_41 : decode cX6_goInherit 41 = .ok (.iconst 0, 1) := by decide +kernel
theorem dX6_goInherit_42 : decode cX6_goInherit 42 = .ok (.iadd, 1) := by decide +kernel
theorem dX6_goInherit_43 : decode cX6_goInherit 43 = .ok (.iastore, 1) := by decide +kernel
theorem dX6_goInherit_44 : decode cX6_goInherit 44 = .ok (.iinc 4 1, 3) := by decide +kernel
theorem dX6_goInherit_47 : decode cX6_goInherit 47 = .ok (.goto (-44), 3) := by decide +kernel
theorem dX6_goInherit_50 : decode cX6_goInherit 50 = .ok (.aload_n 1, 1) := by decide +kernel
theorem dX6_goInherit_51 : decode cX6_goInherit 51 = .ok (.bipush 23, 2) := by decide +kernel
theorem dX6_goInherit_53 : decode cX6_goInherit 53 = .ok (.dup2, 1) := by decide +kernel
theorem dX6_goInherit_54 : decode cX6_goInherit 54 = .ok (.iaload, 1) := by decide +kernel
theorem dX6_goInherit_55 : decode cX6_goInherit 55 = .ok (.iconst 1, 1) := by decide +kernel
theorem dX6_goInherit_56 : decode cX6_goInherit 56 = .ok (.iload_n 2, 1) := by decide +kernel
theorem dX6_goInherit_57 : decode cX6_goInherit 57 = .ok (.ishl, 1) := by decide +kernel
theorem dX6_goInherit_58 : decode cX6_goInherit 58 = .ok (.ior, 1) := by decide +kernel
theorem dX6_goInherit_59 : decode cX6_goInherit 59 = .ok (.iastore, 1) := by decide +kernel
theorem dX6_goInherit_60 : decode cX6_goInherit 60 = .ok (.return_, 1) := by decide +kernel
set_option maxRecDepth 20000 in
theorem ggX6_inherit_X6_noHouse : GoodIn wsX6_inherit wsX6_noHouse := goodIn_r _ [7, 8, 9, 10, 6, 11, 41, 42, 43, 44, 45, 46, 47, 48, 49, 50, 51, 52, 53, 54, 55, 56, 57, 58, 59, 60, 61, 62, 63, 64, 65, 66, 67, 68, 69, 70, 71, 72] (by decide +kernel) (by decide +kernel)
set_option maxRecDepth 20000 in
theorem gX6_inherit_X6_noHouse : GoodIn wsX6_inherit (wsV RX6 120 RX6 yX6_noHouse wsX6_noHouse) := goodIn_app (goodIn_of _ (by decide +kernel)) ggX6_inherit_X6_noHouse
set_option maxRecDepth 20000 in
theorem ggX6_inherit_X6_heirsNow : GoodIn wsX6_inherit wsX6_heirsNow := goodIn_r _ [14, 15, 16, 6, 17, 18, 19, 20, 21, 22, 23, 24, 25, 26] (by decide +kernel) (by decide +kernel)
set_option maxRecDepth 20000 in
theorem gX6_inherit_X6_heirsNow : GoodIn wsX6_inherit (va_wsS RX6 125 yX6_heirsNow wsX6_heirsNow) := goodIn_app (goodIn_of _ (by decide +kernel)) ggX6_inherit_X6_heirsNow
set_option maxRecDepth 20000 in
theorem ggX6_inherit_X6_has : GoodIn wsX6_inherit wsX6_has := goodIn_r _ [20] (by decide +kernel) (by decide +kernel)
set_option maxRecDepth 20000 in
theorem gX6_inherit_X6_has : GoodIn wsX6_inherit (va_wsS RX6 97 yX6_has wsX6_has) := goodIn_app (goodIn_of _ (by decide +kernel)) ggX6_inherit_X6_has
set_option maxRecDepth 20000 in
theorem ggX6_inherit_X6_note : GoodIn wsX6_inherit wsX6_note := goodIn_r _ [30, 31, 32, 2, 41, 42, 43, 44, 45, 46, 47, 48, 49, 50, 51, 52, 53, 54, 55, 56, 57, 58, 59, 60, 61, 62, 63, 64, 65, 66, 67, 68, 69, 70, 71, 72] (by decide +kernel) (by decide +kernel)
set_option maxRecDepth 20000 in
theorem gX6_inherit_X6_note : GoodIn wsX6_inherit (wsV RX6 131 RX6 yX6_note wsX6_note) := goodIn_app (goodIn_of _ (by decide +kernel)) ggX6_inherit_X6_note
set_option maxRecDepth 20000 in
theorem ggX6_inherit_X6_goInherit : GoodIn wsX6_inherit wsX6_goInherit := goodIn_r _ [36, 37, 18, 19, 6, 20, 38, 39, 40, 41, 42, 43, 44, 45, 46, 47, 48, 49, 50, 51, 52, 53, 54, 55, 56, 57, 58, 59, 60, 61, 62, 63, 64, 65, 66, 67, 68, 69, 70, 71, 72] (by decide +kernel) (by decide +kernel)
set_option maxRecDepth 20000 in
theorem gX6_inherit_X6_goInherit : GoodIn wsX6_inherit (wsV RX6 138 RX6 yX6_goInherit wsX6_goInherit) := goodIn_app (goodIn_of _ (by decide +kernel)) ggX6_inherit_X6_goInherit
theorem dX6_inherit_0 : decode cX6_inherit 0 = .ok (.aload_n 0, 1) := by decide +kernel
theorem dX6_inherit_1 : decode cX6_inherit 1 = .ok (.iconst 0, 1) := by decide +kernel
theorem dX6_inherit_2 : decode cX6_inherit 2 = .ok (.putfield 53, 3) := by decide +kernel
theorem dX6_inherit_5 : decode cX6_inherit 5 = .ok (.aload_n 0, 1) := by decide +kernel
theorem dX6_inherit_6 : decode cX6_inherit 6 = .ok (.iload_n 1, 1) := by decide +kernel
theorem dX6_inherit_7 : decode cX6_inherit 7 = .ok (.invokevirtual 120, 3) := by decide +kernel
theorem dX6_inherit_10 : decode cX6_inherit 10 = .ok (.ifCond .eq 5, 3) := by decide +kernel
theorem dX6_inherit_13 : decode cX6_inherit 13 = .ok (.iconst (-1), 1) := by decide +kernel
theorem dX6_inherit_14 : decode cX6_inherit 14 = .ok (.ireturn, 1) := by decide +kernel
theorem dX6_inherit_15 : decode cX6_inherit 15 = .ok (.aload_n 0, 1) := by decide +kernel
theorem dX6_inherit_16 : decode cX6_inherit 16 = .ok (.getfield 22, 3) := by decide +kernel
theorem dX6_inherit_19 : decode cX6_inherit 19 = .ok (.iload_n 1, 1) := by decide +kernel
theorem dX6_inherit_20 : decode cX6_inherit 20 = .ok (.invokestatic 125, 3) := by decide +kernel
theorem dX6_inherit_23 : decode cX6_inherit 23 = .ok (.istore_n 2, 1) := by decide +kernel
theorem dX6_inherit_24 : decode cX6_inherit 24 = .ok (.aload_n 0, 1) := by decide +kernel
theorem dX6_inherit_25 : decode cX6_inherit 25 = .ok (.getfield 22, 3) := by decide +kernel
theorem dX6_inherit_28 : decode cX6_inherit 28 = .ok (.bipush 23, 2) := by decide +kernel
theorem dX6_inherit_30 : decode cX6_inherit 30 = .ok (.iaload, 1) := by decide +kernel
theorem dX6_inherit_31 : decode cX6_inherit 31 = .ok (.iload_n 1, 1) := by decide +kernel
theorem dX6_inherit_32 : decode cX6_inherit 32 = .ok (.invokestatic 97, 3) := by decide +kernel
theorem dX6_inherit_35 : decode cX6_inherit 35 = .ok (.ifCond .ne 7, 3) := by decide +kernel
theorem dX6_inherit_38 : decode cX6_inherit 38 = .ok (.iload_n 2, 1) := by decide +kernel
theorem dX6_inherit_39 : decode cX6_inherit 39 = .ok (.ifCond .ne 6, 3) := by decide +kernel
theorem dX6_inherit_42 : decode cX6_inherit 42 = .ok (.bipush (-3), 2) := by decide +kernel
theorem dX6_inherit_44 : decode cX6_inherit 44 = .ok (.ireturn, 1) := by decide +kernel
theorem dX6_inherit_45 : decode cX6_inherit 45 = .ok (.aload_n 0, 1) := by decide +kernel
theorem dX6_inherit_46 : decode cX6_inherit 46 = .ok (.invokevirtual 131, 3) := by decide +kernel
theorem dX6_inherit_49 : decode cX6_inherit 49 = .ok (.aload_n 0, 1) := by decide +kernel
theorem dX6_inherit_50 : decode cX6_inherit 50 = .ok (.aload_n 0, 1) := by decide +kernel
theorem dX6_inherit_51 : decode cX6_inherit 51 = .ok (.getfield 22, 3) := by decide +kernel
theorem dX6_inherit_54 : decode cX6_inherit 54 = .ok (.iload_n 1, 1) := by decide +kernel
theorem dX6_inherit_55 : decode cX6_inherit 55 = .ok (.iload_n 2, 1) := by decide +kernel
theorem dX6_inherit_56 : decode cX6_inherit 56 = .ok (.invokevirtual 138, 3) := by decide +kernel
theorem dX6_inherit_59 : decode cX6_inherit 59 = .ok (.iload_n 2, 1) := by decide +kernel
theorem dX6_inherit_60 : decode cX6_inherit 60 = .ok (.ireturn, 1) := by decide +kernel
theorem dX6_goYear_0 : decode cX6_goYear 0 = .ok (.iconst 0, 1) := by decide +kernel
theorem dX6_goYear_1 : decode cX6_goYear 1 = .ok (.istore_n 1, 1) := by decide +kernel
theorem dX6_goYear_2 : decode cX6_goYear 2 = .ok (.iload_n 1, 1) := by decide +kernel
theorem dX6_goYear_3 : decode cX6_goYear 3 = .ok (.aload_n 0, 1) := by decide +kernel
theorem dX6_goYear_4 : decode cX6_goYear 4 = .ok (.bipush 25, 2) := by decide +kernel
theorem dX6_goYear_6 : decode cX6_goYear 6 = .ok (.iaload, 1) := by decide +kernel
theorem dX6_goYear_7 : decode cX6_goYear 7 = .ok (.if_icmp .ge 18, 3) := by decide +kernel
theorem dX6_goYear_10 : decode cX6_goYear 10 = .ok (.aload_n 0, 1) := by decide +kernel
theorem dX6_goYear_11 : decode cX6_goYear 11 = .ok (.iconst 0, 1) := by decide +kernel
theorem dX6_goYear_12 : decode cX6_goYear 12 = .ok (.iload_n 1, 1) := by decide +kernel
theorem dX6_goYear_13 : decode cX6_goYear 13 = .ok (.iadd, 1) := by decide +kernel
theorem dX6_goYear_14 : decode cX6_goYear 14 = .ok (.dup2, 1) := by decide +kernel
theorem dX6_goYear_15 : decode cX6_goYear 15 = .ok (.iaload, 1) := by decide +kernel
theorem dX6_goYear_16 : decode cX6_goYear 16 = .ok (.iconst 1, 1) := by decide +kernel
theorem dX6_goYear_17 : decode cX6_goYear 17 = .ok (.iadd, 1) := by decide +kernel
theorem dX6_goYear_18 : decode cX6_goYear 18 = .ok (.iastore, 1) := by decide +kernel
theorem dX6_goYear_19 : decode cX6_goYear 19 = .ok (.iinc 1 1, 3) := by decide +kernel
theorem dX6_goYear_22 : decode cX6_goYear 22 = .ok (.goto (-20), 3) := by decide +kernel
theorem dX6_goYear_25 : decode cX6_goYear 25 = .ok (.aload_n 0, 1) := by decide +kernel
theorem dX6_goYear_26 : decode cX6_goYear 26 = .ok (.bipush 24, 2) := by decide +kernel
theorem dX6_goYear_28 : decode cX6_goYear 28 = .ok (.dup2, 1) := by decide +kernel
theorem dX6_goYear_29 : decode cX6_goYear 29 = .ok (.iaload, 1) := by decide +kernel
theorem dX6_goYear_30 : decode cX6_goYear 30 = .ok (.iconst 1, 1) := by decide +kernel
theorem dX6_goYear_31 : decode cX6_goYear 31 = .ok (.iadd, 1) := by decide +kernel
theorem dX6_goYear_32 : decode cX6_goYear 32 = .ok (.iastore, 1) := by decide +kernel
theorem dX6_goYear_33 : decode cX6_goYear 33 = .ok (.return_, 1) := by decide +kernel
set_option maxRecDepth 20000 in
theorem ggX6_year_X6_note : GoodIn wsX6_year wsX6_note := goodIn_r _ [7, 8, 9, 2, 13, 14, 15, 16, 17, 18, 19, 20, 21, 22, 23, 24, 25, 26, 27, 28, 29, 30, 31, 32, 33, 34, 35, 36, 37, 38, 39, 40, 41, 42, 43, 44] (by decide +kernel) (by decide +kernel)
set_option maxRecDepth 20000 in
theorem gX6_year_X6_note : GoodIn wsX6_year (wsV RX6 131 RX6 yX6_note wsX6_note) := goodIn_app (goodIn_of _ (by decide +kernel)) ggX6_year_X6_note
set_option maxRecDepth 20000 in
theorem ggX6_year_X6_goYear : GoodIn wsX6_year wsX6_goYear := goodIn_r _ [12] (by decide +kernel) (by decide +kernel)
set_option maxRecDepth 20000 in
theorem gX6_year_X6_goYear : GoodIn wsX6_year (va_wsS RX6 142 yX6_goYear wsX6_goYear) := goodIn_app (goodIn_of _ (by decide +kernel)) ggX6_year_X6_goYear
theorem dX6_year_0 : decode cX6_year 0 = .ok (.aload_n 0, 1) := by decide +kernel
theorem dX6_year_1 : decode cX6_year 1 = .ok (.iconst 0, 1) := by decide +kernel
theorem dX6_year_2 : decode cX6_year 2 = .ok (.putfield 53, 3) := by decide +kernel
theorem dX6_year_5 : decode cX6_year 5 = .ok (.aload_n 0, 1) := by decide +kernel
theorem dX6_year_6 : decode cX6_year 6 = .ok (.invokevirtual 131, 3) := by decide +kernel
theorem dX6_year_9 : decode cX6_year 9 = .ok (.aload_n 0, 1) := by decide +kernel
theorem dX6_year_10 : decode cX6_year 10 = .ok (.getfield 22, 3) := by decide +kernel
theorem dX6_year_13 : decode cX6_year 13 = .ok (.invokestatic 142, 3) := by decide +kernel
theorem dX6_year_16 : decode cX6_year 16 = .ok (.aload_n 0, 1) := by decide +kernel
theorem dX6_year_17 : decode cX6_year 17 = .ok (.getfield 22, 3) := by decide +kernel
theorem dX6_year_20 : decode cX6_year 20 = .ok (.bipush 24, 2) := by decide +kernel
theorem dX6_year_22 : decode cX6_year 22 = .ok (.iaload, 1) := by decide +kernel
theorem dX6_year_23 : decode cX6_year 23 = .ok (.ireturn, 1) := by decide +kernel
theorem dX6_undo_0 : decode cX6_undo 0 = .ok (.aload_n 0, 1) := by decide +kernel
theorem dX6_undo_1 : decode cX6_undo 1 = .ok (.iconst 0, 1) := by decide +kernel
theorem dX6_undo_2 : decode cX6_undo 2 = .ok (.putfield 53, 3) := by decide +kernel
theorem dX6_undo_5 : decode cX6_undo 5 = .ok (.aload_n 0, 1) := by decide +kernel
theorem dX6_undo_6 : decode cX6_undo 6 = .ok (.getfield 94, 3) := by decide +kernel
theorem dX6_undo_9 : decode cX6_undo 9 = .ok (.ifCond .ne 6, 3) := by decide +kernel
theorem dX6_undo_12 : decode cX6_undo 12 = .ok (.bipush (-3), 2) := by decide +kernel
theorem dX6_undo_14 : decode cX6_undo 14 = .ok (.ireturn, 1) := by decide +kernel
theorem dX6_undo_15 : decode cX6_undo 15 = .ok (.aload_n 0, 1) := by decide +kernel
theorem dX6_undo_16 : decode cX6_undo 16 = .ok (.dup, 1) := by decide +kernel
theorem dX6_undo_17 : decode cX6_undo 17 = .ok (.getfield 94, 3) := by decide +kernel
theorem dX6_undo_20 : decode cX6_undo 20 = .ok (.iconst 1, 1) := by decide +kernel
theorem dX6_undo_21 : decode cX6_undo 21 = .ok (.isub, 1) := by decide +kernel
theorem dX6_undo_22 : decode cX6_undo 22 = .ok (.putfield 94, 3) := by decide +kernel
theorem dX6_undo_25 : decode cX6_undo 25 = .ok (.iconst 0, 1) := by decide +kernel
theorem dX6_undo_26 : decode cX6_undo 26 = .ok (.istore_n 1, 1) := by decide +kernel
theorem dX6_undo_27 : decode cX6_undo 27 = .ok (.iload_n 1, 1) := by decide +kernel
theorem dX6_undo_28 : decode cX6_undo 28 = .ok (.bipush 33, 2) := by decide +kernel
theorem dX6_undo_30 : decode cX6_undo 30 = .ok (.if_icmp .ge 29, 3) := by decide +kernel
theorem dX6_undo_33 : decode cX6_undo 33 = .ok (.aload_n 0, 1) := by decide +kernel
theorem dX6_undo_34 : decode cX6_undo 34 = .ok (.getfield 22, 3) := by decide +kernel
theorem dX6_undo_37 : decode cX6_undo 37 = .ok (.iload_n 1, 1) := by decide +kernel
theorem dX6_undo_38 : decode cX6_undo 38 = .ok (.aload_n 0, 1) := by decide +kernel
theorem dX6_undo_39 : decode cX6_undo 39 = .ok (.getfield 28, 3) := by decide +kernel
theorem dX6_undo_42 : decode cX6_undo 42 = .ok (.bipush 33, 2) := by decide +kernel
theorem dX6_undo_44 : decode cX6_undo 44 = .ok (.aload_n 0, 1) := by decide +kernel
theorem dX6_undo_45 : decode cX6_undo 45 = .ok (.getfield 94, 3) := by decide +kernel
theorem dX6_undo_48 : decode cX6_undo 48 = .ok (.imul, 1) := by decide +kernel
theorem dX6_undo_49 : decode cX6_undo 49 = .ok (.iload_n 1, 1) := by decide +kernel
theorem dX6_undo_50 : decode cX6_undo 50 = .ok (.iadd, 1) := by decide +kernel
theorem dX6_undo_51 : decode cX6_undo 51 = .ok (.iaload, 1) := by decide +kernel
theorem dX6_undo_52 : decode cX6_undo 52 = .ok (.iastore, 1) := by decide +kernel
theorem dX6_undo_53 : decode cX6_undo 53 = .ok (.iinc 1 1, 3) := by decide +kernel
theorem dX6_undo_56 : decode cX6_undo 56 = .ok (.goto (-29), 3) := by decide +kernel
theorem dX6_undo_59 : decode cX6_undo 59 = .ok (.aload_n 0, 1) := by decide +kernel
theorem dX6_undo_60 : decode cX6_undo 60 = .ok (.getfield 94, 3) := by decide +kernel
theorem dX6_undo_63 : decode cX6_undo 63 = .ok (.ireturn, 1) := by decide +kernel
theorem dX6_begin_0 : decode cX6_begin 0 = .ok (.iconst 0, 1) := by decide +kernel
theorem dX6_begin_1 : decode cX6_begin 1 = .ok (.istore_n 1, 1) := by decide +kernel
theorem dX6_begin_2 : decode cX6_begin 2 = .ok (.iload_n 1, 1) := by decide +kernel
theorem dX6_begin_3 : decode cX6_begin 3 = .ok (.bipush 33, 2) := by decide +kernel
theorem dX6_begin_5 : decode cX6_begin 5 = .ok (.if_icmp .ge 21, 3) := by decide +kernel
theorem dX6_begin_8 : decode cX6_begin 8 = .ok (.aload_n 0, 1) := by decide +kernel
theorem dX6_begin_9 : decode cX6_begin 9 = .ok (.getfield 25, 3) := by decide +kernel
theorem dX6_begin_12 : decode cX6_begin 12 = .ok (.iload_n 1, 1) := by decide +kernel
theorem dX6_begin_13 : decode cX6_begin 13 = .ok (.aload_n 0, 1) := by decide +kernel
theorem dX6_begin_14 : decode cX6_begin 14 = .ok (.getfield 22, 3) := by decide +kernel
theorem dX6_begin_17 : decode cX6_begin 17 = .ok (.iload_n 1, 1) := by decide +kernel
theorem dX6_begin_18 : decode cX6_begin 18 = .ok (.iaload, 1) := by decide +kernel
theorem dX6_begin_19 : decode cX6_begin 19 = .ok (.iastore, 1) := by decide +kernel
theorem dX6_begin_20 : decode cX6_begin 20 = .ok (.iinc 1 1, 3) := by decide +kernel
theorem dX6_begin_23 : decode cX6_begin 23 = .ok (.goto (-21), 3) := by decide +kernel
theorem dX6_begin_26 : decode cX6_begin 26 = .ok (.return_, 1) := by decide +kernel
set_option maxRecDepth 20000 in
theorem ggX6_getsOf_X6_has : GoodIn wsX6_getsOf wsX6_has := goodIn_r _ [6] (by decide +kernel) (by decide +kernel)
set_option maxRecDepth 20000 in
theorem gX6_getsOf_X6_has : GoodIn wsX6_getsOf (va_wsS RX6 97 yX6_has wsX6_has) := goodIn_app (goodIn_of _ (by decide +kernel)) ggX6_getsOf_X6_has
set_option maxRecDepth 20000 in
theorem ggX6_getsOf_X6_heirsNow : GoodIn wsX6_getsOf wsX6_heirsNow := goodIn_r _ [9, 10, 11, 5, 12, 3, 4, 6, 13, 14, 15, 16, 17, 18] (by decide +kernel) (by decide +kernel)
set_option maxRecDepth 20000 in
theorem gX6_getsOf_X6_heirsNow : GoodIn wsX6_getsOf (va_wsS RX6 125 yX6_heirsNow wsX6_heirsNow) := goodIn_app (goodIn_of _ (by decide +kernel)) ggX6_getsOf_X6_heirsNow
set_option maxRecDepth 20000 in
theorem ggX6_getsOf_X6_many : GoodIn wsX6_getsOf wsX6_many := goodIn_r _ [21] (by decide +kernel) (by decide +kernel)
set_option maxRecDepth 20000 in
theorem gX6_getsOf_X6_many : GoodIn wsX6_getsOf (va_wsS RX6 134 yX6_many wsX6_many) := goodIn_app (goodIn_of _ (by decide +kernel)) ggX6_getsOf_X6_many
theorem dX6_getsOf_0 : decode cX6_getsOf 0 = .ok (.aload_n 1, 1) := by decide +kernel
theorem dX6_getsOf_1 : decode cX6_getsOf 1 = .ok (.bipush 14, 2) := by decide +kernel
theorem dX6_getsOf_3 : decode cX6_getsOf 3 = .ok (.iload_n 2, 1) := by decide +kernel
theorem dX6_getsOf_4 : decode cX6_getsOf 4 = .ok (.iadd, 1) := by decide +kernel
theorem dX6_getsOf_5 : decode cX6_getsOf 5 = .ok (.iaload, 1) := by decide +kernel
theorem dX6_getsOf_6 : decode cX6_getsOf 6 = .ok (.istore_n 3, 1) := by decide +kernel
theorem dX6_getsOf_7 : decode cX6_getsOf 7 = .ok (.iconst 0, 1) := by decide +kernel
theorem dX6_getsOf_8 : decode cX6_getsOf 8 = .ok (.istore 4, 2) := by decide +kernel
theorem dX6_getsOf_10 : decode cX6_getsOf 10 = .ok (.iload 4, 2) := by decide +kernel
theorem dX6_getsOf_12 : decode cX6_getsOf 12 = .ok (.aload_n 0, 1) := by decide +kernel
theorem dX6_getsOf_13 : decode cX6_getsOf 13 = .ok (.getfield 57, 3) := by decide +kernel
theorem dX6_getsOf_16 : decode cX6_getsOf 16 = .ok (.if_icmp .ge 62, 3) := by decide +kernel
theorem dX6_getsOf_19 : decode cX6_getsOf 19 = .ok (.aload_n 1, 1) := by decide +kernel
theorem dX6_getsOf_20 : decode cX6_getsOf 20 = .ok (.bipush 23, 2) := by decide +kernel
theorem dX6_getsOf_22 : decode cX6_getsOf 22 = .ok (.iaload, 1) := by decide +kernel
theorem dX6_getsOf_23 : decode cX6_getsOf 23 = .ok (.iload 4, 2) := by decide +kernel
theorem dX6_getsOf_25 : decode cX6_getsOf 25 = .ok (.invokestatic 97, 3) := by decide +kernel
theorem dX6_getsOf_28 : decode cX6_getsOf 28 = .ok (.ifCond .eq 7, 3) := by decide +kernel
theorem dX6_getsOf_31 : decode cX6_getsOf 31 = .ok (.iconst 0, 1) := by decide +kernel
theorem dX6_getsOf_32 : decode cX6_getsOf 32 = .ok (.goto 9, 3) := by decide +kernel
theorem dX6_getsOf_35 : decode cX6_getsOf 35 = .ok (.aload_n 1, 1) := by decide +kernel
theorem dX6_getsOf_36 : decode cX6_getsOf 36 = .ok (.iload 4, 2) := by decide +kernel
theorem dX6_getsOf_38 : decode cX6_getsOf 38 = .ok (.invokestatic 125, 3) := by decide +kernel
theorem dX6_getsOf_41 : decode cX6_getsOf 41 = .ok (.istore 5, 2) := by decide +kernel
theorem dX6_getsOf_43 : decode cX6_getsOf 43 = .ok (.iload_n 3, 1) := by decide +kernel
theorem dX6_getsOf_44 : decode cX6_getsOf 44 = .ok (.iload 5, 2) := by decide +kernel
theorem dX6_getsOf_46 : decode cX6_getsOf 46 = .ok (.iload_n 2, 1) := by decide +kernel
theorem dX6_getsOf_47 : decode cX6_getsOf 47 = .ok (.invokestatic 97, 3) := by decide +kernel
theorem dX6_getsOf_50 : decode cX6_getsOf 50 = .ok (.ifCond .eq 19, 3) := by decide +kernel
theorem dX6_getsOf_53 : decode cX6_getsOf 53 = .ok (.aload_n 0, 1) := by decide +kernel
theorem dX6_getsOf_54 : decode cX6_getsOf 54 = .ok (.getfield 13, 3) := by decide +kernel
theorem dX6_getsOf_57 : decode cX6_getsOf 57 = .ok (.iload 4, 2) := by decide +kernel
theorem dX6_getsOf_59 : decode cX6_getsOf 59 = .ok (.iaload, 1) := by decide +kernel
theorem dX6_getsOf_60 : decode cX6_getsOf 60 = .ok (.iload 5, 2) := by decide +kernel
theorem dX6_getsOf_62 : decode cX6_getsOf 62 = .ok (.invokestatic 134, 3) := by decide +kernel
theorem dX6_getsOf_65 : decode cX6_getsOf 65 = .ok (.idiv, 1) := by decide +kernel
theorem dX6_getsOf_66 : decode cX6_getsOf 66 = .ok (.goto 4, 3) := by decide +kernel
theorem dX6_getsOf_69 : decode cX6_getsOf 69 = .ok (.iconst 0, 1) := by decide +kernel
theorem dX6_getsOf_70 : decode cX6_getsOf 70 = .ok (.iadd, 1) := by decide +kernel
theorem dX6_getsOf_71 : decode cX6_getsOf 71 = .ok (.istore_n 3, 1) := by decide +kernel
theorem dX6_getsOf_72 : decode cX6_getsOf 72 = .ok (.iinc 4 1, 3) := by decide +kernel
theorem dX6_getsOf_75 : decode cX6_getsOf 75 = .ok (.goto (-65), 3) := by decide +kernel
theorem dX6_getsOf_78 : decode cX6_getsOf 78 = .ok (.iload_n 3, 1) := by decide +kernel
theorem dX6_getsOf_79 : decode cX6_getsOf 79 = .ok (.ireturn, 1) := by decide +kernel
set_option maxRecDepth 20000 in
theorem ggX6_gets_X6_noChild : GoodIn wsX6_gets wsX6_noChild := goodIn_r _ [7, 2, 8, 9, 6, 10, 35, 36, 37, 38, 39, 40, 41, 42, 43, 44, 45, 46, 47, 48, 49, 50, 51, 52, 53, 54, 55, 56, 57, 58, 59, 60, 61, 62, 63, 64, 65, 66] (by decide +kernel) (by decide +kernel)
set_option maxRecDepth 20000 in
theorem gX6_gets_X6_noChild : GoodIn wsX6_gets (wsV RX6 116 RX6 yX6_noChild wsX6_noChild) := goodIn_app (goodIn_of _ (by decide +kernel)) ggX6_gets_X6_noChild
set_option maxRecDepth 20000 in
theorem ggX6_gets_X6_getsOf : GoodIn wsX6_gets wsX6_getsOf := goodIn_r _ [14, 15, 16, 17, 18, 6, 19, 20, 21, 22, 23, 24, 25, 26, 27, 28, 29, 30, 31, 32, 33, 34, 35, 36, 37, 38, 39, 40, 41, 42, 43, 44, 45, 46, 47, 48, 49, 50, 51, 52, 53, 54, 55, 56, 57, 58, 59, 60, 61, 62, 63, 64, 65, 66] (by decide +kernel) (by decide +kernel)
set_option maxRecDepth 20000 in
theorem gX6_gets_X6_getsOf : GoodIn wsX6_gets (wsV RX6 146 RX6 yX6_getsOf wsX6_getsOf) := goodIn_app (goodIn_of _ (by decide +kernel)) ggX6_gets_X6_getsOf
theorem dX6_gets_0 : decode cX6_gets 0 = .ok (.aload_n 0, 1) := by decide +kernel
theorem dX6_gets_1 : decode cX6_gets 1 = .ok (.iconst 0, 1) := by decide +kernel
theorem dX6_gets_2 : decode cX6_gets 2 = .ok (.putfield 53, 3) := by decide +kernel
theorem dX6_gets_5 : decode cX6_gets 5 = .ok (.aload_n 0, 1) := by decide +kernel
theorem dX6_gets_6 : decode cX6_gets 6 = .ok (.iload_n 1, 1) := by decide +kernel
theorem dX6_gets_7 : decode cX6_gets 7 = .ok (.invokevirtual 116, 3) := by decide +kernel
theorem dX6_gets_10 : decode cX6_gets 10 = .ok (.ifCond .eq 7, 3) := by decide +kernel
theorem dX6_gets_13 : decode cX6_gets 13 = .ok (.iconst (-1), 1) := by decide +kernel
theorem dX6_gets_14 : decode cX6_gets 14 = .ok (.goto 12, 3) := by decide +kernel
theorem dX6_gets_17 : decode cX6_gets 17 = .ok (.aload_n 0, 1) := by decide +kernel
theorem dX6_gets_18 : decode cX6_gets 18 = .ok (.aload_n 0, 1) := by decide +kernel
theorem dX6_gets_19 : decode cX6_gets 19 = .ok (.getfield 22, 3) := by decide +kernel
theorem dX6_gets_22 : decode cX6_gets 22 = .ok (.iload_n 1, 1) := by decide +kernel
theorem dX6_gets_23 : decode cX6_gets 23 = .ok (.invokevirtual 146, 3) := by decide +kernel
theorem dX6_gets_26 : decode cX6_gets 26 = .ok (.ireturn, 1) := by decide +kernel
set_option maxRecDepth 20000 in
theorem ggX6_way_X6_noChild : GoodIn wsX6_way wsX6_noChild := goodIn_r _ [7, 2, 8, 9, 6, 10, 31, 32, 33, 34, 35, 36, 37, 38, 39, 40, 41, 42, 43, 44, 45, 46, 47, 48, 49, 50, 51, 52, 53, 54, 55, 56, 57, 58, 59, 60, 61, 62] (by decide +kernel) (by decide +kernel)
set_option maxRecDepth 20000 in
theorem gX6_way_X6_noChild : GoodIn wsX6_way (wsV RX6 116 RX6 yX6_noChild wsX6_noChild) := goodIn_app (goodIn_of _ (by decide +kernel)) ggX6_way_X6_noChild
set_option maxRecDepth 20000 in
theorem ggX6_way_X6_noHouse : GoodIn wsX6_way wsX6_noHouse := goodIn_r _ [14, 15, 8, 9, 6, 10, 31, 32, 33, 34, 35, 36, 37, 38, 39, 40, 41, 42, 43, 44, 45, 46, 47, 48, 49, 50, 51, 52, 53, 54, 55, 56, 57, 58, 59, 60, 61, 62] (by decide +kernel) (by decide +kernel)
set_option maxRecDepth 20000 in
theorem gX6_way_X6_noHouse : GoodIn wsX6_way (wsV RX6 120 RX6 yX6_noHouse wsX6_noHouse) := goodIn_app (goodIn_of _ (by decide +kernel)) ggX6_way_X6_noHouse
set_option maxRecDepth 20000 in
theorem ggX6_way_X6_has : GoodIn wsX6_way wsX6_has := goodIn_r _ [18] (by decide +kernel) (by decide +kernel)
set_option maxRecDepth 20000 in
theorem gX6_way_X6_has : GoodIn wsX6_way (va_wsS RX6 97 yX6_has wsX6_has) := goodIn_app (goodIn_of _ (by decide +kernel)) ggX6_way_X6_has
set_option maxRecDepth 20000 in
theorem ggX6_way_X6_many : GoodIn wsX6_way wsX6_many := goodIn_r _ [21] (by decide +kernel) (by decide +kernel)
set_option maxRecDepth 20000 in
theorem gX6_way_X6_many : GoodIn wsX6_way (va_wsS RX6 134 yX6_many wsX6_many) := goodIn_app (goodIn_of _ (by decide +kernel)) ggX6_way_X6_many
set_option maxRecDepth 20000 in
theorem ggX6_way_X6_heirsOf : GoodIn wsX6_way wsX6_heirsOf := goodIn_r _ [24, 16, 17, 6, 18, 25, 26, 27, 28, 29, 30] (by decide +kernel) (by decide +kernel)
set_option maxRecDepth 20000 in
theorem gX6_way_X6_heirsOf : GoodIn wsX6_way (va_wsS RX6 109 yX6_heirsOf wsX6_heirsOf) := goodIn_app (goodIn_of _ (by decide +kernel)) ggX6_way_X6_heirsOf
theorem dX6_way_0 : decode cX6_way 0 = .ok (.aload_n 0, 1) := by decide +kernel
theorem dX6_way_1 : decode cX6_way 1 = .ok (.iconst 0, 1) := by decide +kernel
theorem dX6_way_2 : decode cX6_way 2 = .ok (.putfield 53, 3) := by decide +kernel
theorem dX6_way_5 : decode cX6_way 5 = .ok (.aload_n 0, 1) := by decide +kernel
theorem dX6_way_6 : decode cX6_way 6 = .ok (.iload_n 1, 1) := by decide +kernel
theorem dX6_way_7 : decode cX6_way 7 = .ok (.invokevirtual 116, 3) := by decide +kernel
theorem dX6_way_10 : decode cX6_way 10 = .ok (.ifCond .ne 11, 3) := by decide +kernel
theorem dX6_way_13 : decode cX6_way 13 = .ok (.aload_n 0, 1) := by decide +kernel
theorem dX6_way_14 : decode cX6_way 14 = .ok (.iload_n 2, 1) := by decide +kernel
theorem dX6_way_15 : decode cX6_way 15 = .ok (.invokevirtual 120, 3) := by decide +kernel
theorem dX6_way_18 : decode cX6_way 18 = .ok (.ifCond .eq 5, 3) := by decide +kernel
theorem dX6_way_21 : decode cX6_way 21 = .ok (.iconst (-1), 1) := by decide +kernel
theorem dX6_way_22 : decode cX6_way 22 = .ok (.ireturn, 1) := by decide +kernel
theorem dX6_way_23 : decode cX6_way 23 = .ok (.aload_n 0, 1) := by decide +kernel
theorem dX6_way_24 : decode cX6_way 24 = .ok (.getfield 22, 3) := by decide +kernel
theorem dX6_way_27 : decode cX6_way 27 = .ok (.bipush 21, 2) := by decide +kernel
theorem dX6_way_29 : decode cX6_way 29 = .ok (.iaload, 1) := by decide +kernel
theorem dX6_way_30 : decode cX6_way 30 = .ok (.iload_n 1, 1) := by decide +kernel
theorem dX6_way_31 : decode cX6_way 31 = .ok (.invokestatic 97, 3) := by decide +kernel
theorem dX6_way_34 : decode cX6_way 34 = .ok (.ifCond .ne 6, 3) := by decide +kernel
theorem dX6_way_37 : decode cX6_way 37 = .ok (.bipush (-3), 2) := by decide +kernel
theorem dX6_way_39 : decode cX6_way 39 = .ok (.ireturn, 1) := by decide +kernel
theorem dX6_way_40 : decode cX6_way 40 = .ok (.aload_n 0, 1) := by decide +kernel
theorem dX6_way_41 : decode cX6_way 41 = .ok (.getfield 22, 3) := by decide +kernel
theorem dX6_way_44 : decode cX6_way 44 = .ok (.bipush 21, 2) := by decide +kernel
theorem dX6_way_46 : decode cX6_way 46 = .ok (.iaload, 1) := by decide +kernel
theorem dX6_way_47 : decode cX6_way 47 = .ok (.iconst 1, 1) := by decide +kernel
theorem dX6_way_48 : decode cX6_way 48 = .ok (.iload_n 1, 1) := by decide +kernel
theorem dX6_way_49 : decode cX6_way 49 = .ok (.ishl, 1) := by decide +kernel
theorem dX6_way_50 : decode cX6_way 50 = .ok (.iconst (-1), 1) := by decide +kernel
theorem dX6_way_51 : decode cX6_way 51 = .ok (.ixor, 1) := by decide +kernel
theorem dX6_way_52 : decode cX6_way 52 = .ok (.iand, 1) := by decide +kernel
theorem dX6_way_53 : decode cX6_way 53 = .ok (.istore_n 3, 1) := by decide +kernel
theorem dX6_way_54 : decode cX6_way 54 = .ok (.bipush (-9), 2) := by decide +kernel
theorem dX6_way_56 : decode cX6_way 56 = .ok (.istore 4, 2) := by decide +kernel
theorem dX6_way_58 : decode cX6_way 58 = .ok (.iconst 0, 1) := by decide +kernel
theorem dX6_way_59 : decode cX6_way 59 = .ok (.istore 5, 2) := by decide +kernel
theorem dX6_way_61 : decode cX6_way 61 = .ok (.iload 5, 2) := by decide +kernel
theorem dX6_way_63 : decode cX6_way 63 = .ok (.iload_n 3, 1) := by decide +kernel
theorem dX6_way_64 : decode cX6_way 64 = .ok (.if_icmp .gt 108, 3) := by decide +kernel
theorem dX6_way_67 : decode cX6_way 67 = .ok (.iload 5, 2) := by decide +kernel
theorem dX6_way_69 : decode cX6_way 69 = .ok (.iload_n 3, 1) := by decide +kernel
theorem dX6_way_70 : decode cX6_way 70 = .ok (.iconst (-1), 1) := by decide +kernel
theorem dX6_way_71 : decode cX6_way 71 = .ok (.ixor, 1) := by decide +kernel
theorem dX6_way_72 : decode cX6_way 72 = .ok (.iand, 1) := by decide +kernel
theorem dX6_way_73 : decode cX6_way 73 = .ok (.ifCond .ne 27, 3) := by decide +kernel
theorem dX6_way_76 : decode cX6_way 76 = .ok (.iload 4, 2) := by decide +kernel
theorem dX6_way_78 : decode cX6_way 78 = .ok (.bipush (-9), 2) := by decide +kernel
theorem dX6_way_80 : decode cX6_way 80 = .ok (.if_icmp .eq 16, 3) := by decide +kernel
theorem dX6_way_83 : decode cX6_way 83 = .ok (.iload 5, 2) := by decide +kernel
theorem dX6_way_85 : decode cX6_way 85 = .ok (.invokestatic 134, 3) := by decide +kernel
theorem dX6_way_88 : decode cX6_way 88 = .ok (.iload 4, 2) := by decide +kernel
theorem dX6_way_90 : decode cX6_way 90 = .ok (.invokestatic 134, 3) := by decide +kernel
theorem dX6_way_93 : decode cX6_way 93 = .ok (.if_icmp .ge 7, 3) := by decide +kernel
theorem dX6_way_96 : decode cX6_way 96 = .ok (.iconst 1, 1) := by decide +kernel
theorem dX6_way_97 : decode cX6_way 97 = .ok (.goto 4, 3) := by decide +kernel
theorem dX6_way_100 : decode cX6_way 100 = .ok (.iconst 0, 1) := by decide +kernel
theorem dX6_way_101 : decode cX6_way 101 = .ok (.istore 6, 2) := by decide +kernel
theorem dX6_way_103 : decode cX6_way 103 = .ok (.iload 6, 2) := by decide +kernel
theorem dX6_way_105 : decode cX6_way 105 = .ok (.ifCond .eq 44, 3) := by decide +kernel
theorem dX6_way_108 : decode cX6_way 108 = .ok (.aload_n 0, 1) := by decide +kernel
theorem dX6_way_109 : decode cX6_way 109 = .ok (.getfield 22, 3) := by decide +kernel
theorem dX6_way_112 : decode cX6_way 112 = .ok (.iload_n 2, 1) := by decide +kernel
theorem dX6_way_113 : decode cX6_way 113 = .ok (.aload_n 0, 1) := by decide +kernel
theorem dX6_way_114 : decode cX6_way 114 = .ok (.getfield 22, 3) := by decide +kernel
theorem dX6_way_117 : decode cX6_way 117 = .ok (.bipush 22, 2) := by decide +kernel
theorem dX6_way_119 : decode cX6_way 119 = .ok (.iaload, 1) := by decide +kernel
theorem dX6_way_120 : decode cX6_way 120 = .ok (.iload_n 2, 1) := by decide +kernel
theorem dX6_way_121 : decode cX6_way 121 = .ok (.ishr, 1) := by decide +kernel
theorem dX6_way_122 : decode cX6_way 122 = .ok (.iconst 1, 1) := by decide +kernel
theorem dX6_way_123 : decode cX6_way 123 = .ok (.iand, 1) := by decide +kernel
theorem dX6_way_124 : decode cX6_way 124 = .ok (.aload_n 0, 1) := by decide +kernel
theorem dX6_way_125 : decode cX6_way 125 = .ok (.getfield 22, 3) := by decide +kernel
theorem dX6_way_128 : decode cX6_way 128 = .ok (.bipush 21, 2) := by decide +kernel
theorem dX6_way_130 : decode cX6_way 130 = .ok (.iaload, 1) := by decide +kernel
theorem dX6_way_131 : decode cX6_way 131 = .ok (.iload 5, 2) := by decide +kernel
theorem dX6_way_133 : decode cX6_way 133 = .ok (.iconst (-1), 1) := by decide +kernel
theorem dX6_way_134 : decode cX6_way 134 = .ok (.ixor, 1) := by decide +kernel
theorem dX6_way_135 : decode cX6_way 135 = .ok (.iand, 1) := by decide +kernel
theorem dX6_way_136 : decode cX6_way 136 = .ok (.invokestatic 109, 3) := by decide +kernel
theorem dX6_way_139 : decode cX6_way 139 = .ok (.iconst 1, 1) := by decide +kernel
theorem dX6_way_140 : decode cX6_way 140 = .ok (.iload_n 1, 1) := by decide +kernel
theorem dX6_way_141 : decode cX6_way 141 = .ok (.ishl, 1) := by decide +kernel
theorem dX6_way_142 : decode cX6_way 142 = .ok (.if_icmp .ne 7, 3) := by decide +kernel
theorem dX6_way_145 : decode cX6_way 145 = .ok (.iconst 1, 1) := by decide +kernel
theorem dX6_way_146 : decode cX6_way 146 = .ok (.goto 4, 3) := by decide +kernel
theorem dX6_way_149 : decode cX6_way 149 = .ok (.iconst 0, 1) := by decide +kernel
theorem dX6_way_150 : decode cX6_way 150 = .ok (.istore 7, 2) := by decide +kernel
theorem dX6_way_152 : decode cX6_way 152 = .ok (.iload 7, 2) := by decide +kernel
theorem dX6_way_154 : decode cX6_way 154 = .ok (.ifCond .eq 8, 3) := by decide +kernel
theorem dX6_way_157 : decode cX6_way 157 = .ok (.iload 5, 2) := by decide +kernel
theorem dX6_way_159 : decode cX6_way 159 = .ok (.goto 5, 3) := by decide +kernel
theorem dX6_way_162 : decode cX6_way 162 = .ok (.iload 4, 2) := by decide +kernel
theorem dX6_way_164 : decode cX6_way 164 = .ok (.istore 4, 2) := by decide +kernel
theorem dX6_way_166 : decode cX6_way 166 = .ok (.iinc 5 1, 3) := by decide +kernel
theorem dX6_way_169 : decode cX6_way 169 = .ok (.goto (-108), 3) := by decide +kernel
theorem dX6_way_172 : decode cX6_way 172 = .ok (.iload 4, 2) := by decide +kernel
theorem dX6_way_174 : decode cX6_way 174 = .ok (.ireturn, 1) := by decide +kernel
set_option maxRecDepth 20000 in
theorem ggX6_findRoll_X6_begin : GoodIn wsX6_findRoll wsX6_begin := goodIn_r _ [10, 5, 4, 34, 35, 36, 37, 38, 39, 40, 41, 42, 43, 44, 45, 46, 47, 48, 49, 50, 51, 52, 53, 54, 55, 56, 57, 58, 59, 60, 61, 62, 63, 64, 65] (by decide +kernel) (by decide +kernel)
set_option maxRecDepth 20000 in
theorem gX6_findRoll_X6_begin : GoodIn wsX6_findRoll (wsV RX6 155 RX6 yX6_begin wsX6_begin) := goodIn_app (goodIn_of _ (by decide +kernel)) ggX6_findRoll_X6_begin
set_option maxRecDepth 20000 in
theorem ggX6_findRoll_X6_getsOf : GoodIn wsX6_findRoll wsX6_getsOf := goodIn_r _ [14, 3, 15, 16, 17, 9, 18, 19, 20, 21, 22, 23, 24, 25, 26, 27, 28, 29, 30, 31, 32, 33, 34, 35, 36, 37, 38, 39, 40, 41, 42, 43, 44, 45, 46, 47, 48, 49, 50, 51, 52, 53, 54, 55, 56, 57, 58, 59, 60, 61, 62, 63, 64, 65] (by decide +kernel) (by decide +kernel)
set_option maxRecDepth 20000 in
theorem gX6_findRoll_X6_getsOf : GoodIn wsX6_findRoll (wsV RX6 146 RX6 yX6_getsOf wsX6_getsOf) := goodIn_app (goodIn_of _ (by decide +kernel)) ggX6_findRoll_X6_getsOf
set_option maxRecDepth 20000 in
theorem ggX6_findRoll_X6_many : GoodIn wsX6_findRoll wsX6_many := goodIn_r _ [33] (by decide +kernel) (by decide +kernel)
set_option maxRecDepth 20000 in
theorem gX6_findRoll_X6_many : GoodIn wsX6_findRoll (va_wsS RX6 134 yX6_many wsX6_many) := goodIn_app (goodIn_of _ (by decide +kernel)) ggX6_findRoll_X6_many
theorem dX6_findRoll_0 : decode cX6_findRoll 0 = .ok (.aload_n 0, 1) := by decide +kernel
theorem dX6_findRoll_1 : decode cX6_findRoll 1 = .ok (.bipush (-9), 2) := by decide +kernel
theorem dX6_findRoll_3 : decode cX6_findRoll 3 = .ok (.putfield 149, 3) := by decide +kernel
theorem dX6_findRoll_6 : decode cX6_findRoll 6 = .ok (.aload_n 0, 1) := by decide +kernel
theorem dX6_findRoll_7 : decode cX6_findRoll 7 = .ok (.iconst 0, 1) := by decide +kernel
theorem dX6_findRoll_8 : decode cX6_findRoll 8 = .ok (.putfield 152, 3) := by decide +kernel
theorem dX6_findRoll_11 : decode cX6_findRoll 11 = .ok (.iconst 0, 1) := by decide +kernel
theorem dX6_findRoll_12 : decode cX6_findRoll 12 = .ok (.istore_n 2, 1) := by decide +kernel
theorem dX6_findRoll_13 : decode cX6_findRoll 13 = .ok (.iload_n 2, 1) := by decide +kernel
theorem dX6_findRoll_14 : decode cX6_findRoll 14 = .ok (.iconst 1, 1) := by decide +kernel
theorem dX6_findRoll_15 : decode cX6_findRoll 15 = .ok (.aload_n 0, 1) := by decide +kernel
theorem dX6_findRoll_16 : decode cX6_findRoll 16 = .ok (.getfield 57, 3) := by decide +kernel
theorem dX6_findRoll_19 : decode cX6_findRoll 19 = .ok (.ishl, 1) := by decide +kernel
theorem dX6_findRoll_20 : decode cX6_findRoll 20 = .ok (.if_icmp .ge 86, 3) := by decide +kernel
theorem dX6_findRoll_23 : decode cX6_findRoll 23 = .ok (.iload_n 2, 1) := by decide +kernel
theorem dX6_findRoll_24 : decode cX6_findRoll 24 = .ok (.aload_n 0, 1) := by decide +kernel
theorem dX6_findRoll_25 : decode cX6_findRoll 25 = .ok (.getfield 22, 3) := by decide +kernel
theorem dX6_findRoll_28 : decode cX6_findRoll 28 = .ok (.bipush 23, 2) := by decide +kernel
theorem dX6_findRoll_30 : decode cX6_findRoll 30 = .ok (.iaload, 1) := by decide +kernel
theorem dX6_findRoll_31 : decode cX6_findRoll 31 = .ok (.iand, 1) := by decide +kernel
theorem dX6_findRoll_32 : decode cX6_findRoll 32 = .ok (.ifCond .ne 68, 3) := by decide +kernel
theorem dX6_findRoll_35 : decode cX6_findRoll 35 = .ok (.aload_n 0, 1) := by decide +kernel
theorem dX6_findRoll_36 : decode cX6_findRoll 36 = .ok (.invokevirtual 155, 3) := by decide +kernel
theorem dX6_findRoll_39 : decode cX6_findRoll 39 = .ok (.aload_n 0, 1) := by decide +kernel
theorem dX6_findRoll_40 : decode cX6_findRoll 40 = .ok (.getfield 25, 3) := by decide +kernel
theorem dX6_findRoll_43 : decode cX6_findRoll 43 = .ok (.bipush 22, 2) := by decide +kernel
theorem dX6_findRoll_45 : decode cX6_findRoll 45 = .ok (.dup2, 1) := by decide +kernel
theorem dX6_findRoll_46 : decode cX6_findRoll 46 = .ok (.iaload, 1) := by decide +kernel
theorem dX6_findRoll_47 : decode cX6_findRoll 47 = .ok (.iload_n 2, 1) := by decide +kernel
theorem dX6_findRoll_48 : decode cX6_findRoll 48 = .ok (.ixor, 1) := by decide +kernel
theorem dX6_findRoll_49 : decode cX6_findRoll 49 = .ok (.iastore, 1) := by decide +kernel
theorem dX6_findRoll_50 : decode cX6_findRoll 50 = .ok (.aload_n 0, 1) := by decide +kernel
theorem dX6_findRoll_51 : decode cX6_findRoll 51 = .ok (.aload_n 0, 1) := by decide +kernel
theorem dX6_findRoll_52 : decode cX6_findRoll 52 = .ok (.getfield 25, 3) := by decide +kernel
theorem dX6_findRoll_55 : decode cX6_findRoll 55 = .ok (.iload_n 1, 1) := by decide +kernel
theorem dX6_findRoll_56 : decode cX6_findRoll 56 = .ok (.invokevirtual 146, 3) := by decide +kernel
theorem dX6_findRoll_59 : decode cX6_findRoll 59 = .ok (.istore_n 3, 1) := by decide +kernel
theorem dX6_findRoll_60 : decode cX6_findRoll 60 = .ok (.iload_n 3, 1) := by decide +kernel
theorem dX6_findRoll_61 : decode cX6_findRoll 61 = .ok (.aload_n 0, 1) := by decide +kernel
theorem dX6_findRoll_62 : decode cX6_findRoll 62 = .ok (.getfield 149, 3) := by decide +kernel
theorem dX6_findRoll_65 : decode cX6_findRoll 65 = .ok (.if_icmp .gt 25, 3) := by decide +kernel
theorem dX6_findRoll_68 : decode cX6_findRoll 68 = .ok (.iload_n 3, 1) := by decide +kernel
theorem dX6_findRoll_69 : decode cX6_findRoll 69 = .ok (.aload_n 0, 1) := by decide +kernel
theorem dX6_findRoll_70 : decode cX6_findRoll 70 = .ok (.getfield 149, 3) := by decide +kernel
theorem dX6_findRoll_73 : decode cX6_findRoll 73 = .ok (.if_icmp .ne 27, 3) := by decide +kernel
theorem dX6_findRoll_76 : decode cX6_findRoll 76 = .ok (.iload_n 2, 1) := by decide +kernel
theorem dX6_findRoll_77 : decode cX6_findRoll 77 = .ok (.invokestatic 134, 3) := by decide +kernel
theorem dX6_findRoll_80 : decode cX6_findRoll 80 = .ok (.aload_n 0, 1) := by decide +kernel
theorem dX6_findRoll_81 : decode cX6_findRoll 81 = .ok (.getfield 152, 3) := by decide +kernel
theorem dX6_findRoll_84 : decode cX6_findRoll 84 = .ok (.invokestatic 134, 3) := by decide +kernel
theorem dX6_findRoll_87 : decode cX6_findRoll 87 = .ok (.if_icmp .ge 13, 3) := by decide +kernel
theorem dX6_findRoll_90 : decode cX6_findRoll 90 = .ok (.aload_n 0, 1) := by decide +kernel
theorem dX6_findRoll_91 : decode cX6_findRoll 91 = .ok (.iload_n 3, 1) := by decide +kernel
theorem dX6_findRoll_92 : decode cX6_findRoll 92 = .ok (.putfield 149, 3) := by decide +kernel
theorem dX6_findRoll_95 : decode cX6_findRoll 95 = .ok (.aload_n 0, 1) := by decide +kernel
theorem dX6_findRoll_96 : decode cX6_findRoll 96 = .ok (.iload_n 2, 1) := by decide +kernel
theorem dX6_findRoll_97 : decode cX6_findRoll 97 = .ok (.putfield 152, 3) := by decide +kernel
theorem dX6_findRoll_100 : decode cX6_findRoll 100 = .ok (.iinc 2 1, 3) := by decide +kernel
theorem dX6_findRoll_103 : decode cX6_findRoll 103 = .ok (.goto (-90), 3) := by decide +kernel
theorem dX6_findRoll_106 : decode cX6_findRoll 106 = .ok (.return_, 1) := by decide +kernel
set_option maxRecDepth 20000 in
theorem ggX6_rollFor_X6_noChild : GoodIn wsX6_rollFor wsX6_noChild := goodIn_r _ [8, 9, 10, 11, 7, 12, 46, 47, 48, 49, 50, 51, 52, 53, 54, 55, 56, 57, 58, 59, 60, 61, 62, 63, 64, 65, 66, 67, 68, 69, 70, 71, 72, 73, 74, 75, 76, 77] (by decide +kernel) (by decide +kernel)
set_option maxRecDepth 20000 in
theorem gX6_rollFor_X6_noChild : GoodIn wsX6_rollFor (wsV RX6 116 RX6 yX6_noChild wsX6_noChild) := goodIn_app (goodIn_of _ (by decide +kernel)) ggX6_rollFor_X6_noChild
set_option maxRecDepth 20000 in
theorem ggX6_rollFor_X6_in : GoodIn wsX6_rollFor wsX6_in := goodIn_r _ [12] (by decide +kernel) (by decide +kernel)
set_option maxRecDepth 20000 in
theorem gX6_rollFor_X6_in : GoodIn wsX6_rollFor (va_wsS RX6 60 yX6_in wsX6_in) := goodIn_app (goodIn_of _ (by decide +kernel)) ggX6_rollFor_X6_in
set_option maxRecDepth 20000 in
theorem ggX6_rollFor_X6_findRoll : GoodIn wsX6_rollFor wsX6_findRoll := goodIn_r _ [16, 2, 3, 17, 9, 18, 19, 20, 21, 7, 22, 23, 24, 25, 26, 27, 28, 29, 30, 31, 32, 33, 34, 35, 36, 37, 38, 39, 40, 41, 42, 43, 44, 45, 46, 47, 48, 49, 50, 51, 52, 53, 54, 55, 56, 57, 58, 59, 60, 61, 62, 63, 64, 65, 66, 67, 68, 69, 70, 71, 72, 73, 74, 75, 76, 77] (by decide +kernel) (by decide +kernel)
set_option maxRecDepth 20000 in
theorem gX6_rollFor_X6_findRoll : GoodIn wsX6_rollFor (wsV RX6 158 RX6 yX6_findRoll wsX6_findRoll) := goodIn_app (goodIn_of _ (by decide +kernel)) ggX6_rollFor_X6_findRoll
theorem dX6_rollFor_0 : decode cX6_rollFor 0 = .ok (.aload_n 0, 1) := by decide +kernel
theorem dX6_rollFor_1 : decode cX6_rollFor 1 = .ok (.iconst 0, 1) := by decide +kernel
theorem dX6_rollFor_2 : decode cX6_rollFor 2 = .ok (.putfield 53, 3) := by decide +kernel
theorem dX6_rollFor_5 : decode cX6_rollFor 5 = .ok (.aload_n 0, 1) := by decide +kernel
theorem dX6_rollFor_6 : decode cX6_rollFor 6 = .ok (.iload_n 1, 1) := by decide +kernel
theorem dX6_rollFor_7 : decode cX6_rollFor 7 = .ok (.invokevirtual 116, 3) := by decide +kernel
theorem dX6_rollFor_10 : decode cX6_rollFor 10 = .ok (.ifCond .eq 5, 3) := by decide +kernel
theorem dX6_rollFor_13 : decode cX6_rollFor 13 = .ok (.iconst (-1), 1) := by decide +kernel
theorem dX6_rollFor_14 : decode cX6_rollFor 14 = .ok (.ireturn, 1) := by decide +kernel
theorem dX6_rollFor_15 : decode cX6_rollFor 15 = .ok (.iload_n 2, 1) := by decide +kernel
theorem dX6_rollFor_16 : decode cX6_rollFor 16 = .ok (.i2l, 1) := by decide +kernel
theorem dX6_rollFor_17 : decode cX6_rollFor 17 = .ok (.lconst 0, 1) := by decide +kernel
theorem dX6_rollFor_18 : decode cX6_rollFor 18 = .ok (.lconst 1, 1) := by decide +kernel
theorem dX6_rollFor_19 : decode cX6_rollFor 19 = .ok (.invokestatic 60, 3) := by decide +kernel
theorem dX6_rollFor_22 : decode cX6_rollFor 22 = .ok (.ifCond .ne 6, 3) := by decide +kernel
theorem dX6_rollFor_25 : decode cX6_rollFor 25 = .ok (.bipush (-2), 2) := by decide +kernel
theorem dX6_rollFor_27 : decode cX6_rollFor 27 = .ok (.ireturn, 1) := by decide +kernel
theorem dX6_rollFor_28 : decode cX6_rollFor 28 = .ok (.aload_n 0, 1) := by decide +kernel
theorem dX6_rollFor_29 : decode cX6_rollFor 29 = .ok (.iload_n 1, 1) := by decide +kernel
theorem dX6_rollFor_30 : decode cX6_rollFor 30 = .ok (.invokevirtual 158, 3) := by decide +kernel
theorem dX6_rollFor_33 : decode cX6_rollFor 33 = .ok (.iload_n 2, 1) := by decide +kernel
theorem dX6_rollFor_34 : decode cX6_rollFor 34 = .ok (.ifCond .ne 10, 3) := by decide +kernel
theorem dX6_rollFor_37 : decode cX6_rollFor 37 = .ok (.aload_n 0, 1) := by decide +kernel
theorem dX6_rollFor_38 : decode cX6_rollFor 38 = .ok (.getfield 149, 3) := by decide +kernel
theorem dX6_rollFor_41 : decode cX6_rollFor 41 = .ok (.goto 7, 3) := by decide +kernel
theorem dX6_rollFor_44 : decode cX6_rollFor 44 = .ok (.aload_n 0, 1) := by decide +kernel
theorem dX6_rollFor_45 : decode cX6_rollFor 45 = .ok (.getfield 152, 3) := by decide +kernel
theorem dX6_rollFor_48 : decode cX6_rollFor 48 = .ok (.ireturn, 1) := by decide +kernel
set_option maxRecDepth 20000 in
theorem ggX6_mend_X6_noChild : GoodIn wsX6_mend wsX6_noChild := goodIn_r _ [8, 9, 10, 11, 7, 12, 40, 41, 42, 43, 44, 45, 46, 47, 48, 49, 50, 51, 52, 53, 54, 55, 56, 57, 58, 59, 60, 61, 62, 63, 64, 65, 66, 67, 68, 69, 70, 71] (by decide +kernel) (by decide +kernel)
set_option maxRecDepth 20000 in
theorem gX6_mend_X6_noChild : GoodIn wsX6_mend (wsV RX6 116 RX6 yX6_noChild wsX6_noChild) := goodIn_app (goodIn_of _ (by decide +kernel)) ggX6_mend_X6_noChild
set_option maxRecDepth 20000 in
theorem ggX6_mend_X6_begin : GoodIn wsX6_mend wsX6_begin := goodIn_r _ [16, 3, 9, 40, 41, 42, 43, 44, 45, 46, 47, 48, 49, 50, 51, 52, 53, 54, 55, 56, 57, 58, 59, 60, 61, 62, 63, 64, 65, 66, 67, 68, 69, 70, 71] (by decide +kernel) (by decide +kernel)
set_option maxRecDepth 20000 in
theorem gX6_mend_X6_begin : GoodIn wsX6_mend (wsV RX6 155 RX6 yX6_begin wsX6_begin) := goodIn_app (goodIn_of _ (by decide +kernel)) ggX6_mend_X6_begin
set_option maxRecDepth 20000 in
theorem ggX6_mend_X6_getsOf : GoodIn wsX6_mend wsX6_getsOf := goodIn_r _ [20, 2, 21, 22, 23, 7, 24, 25, 26, 27, 28, 29, 30, 31, 32, 33, 34, 35, 36, 37, 38, 39, 40, 41, 42, 43, 44, 45, 46, 47, 48, 49, 50, 51, 52, 53, 54, 55, 56, 57, 58, 59, 60, 61, 62, 63, 64, 65, 66, 67, 68, 69, 70, 71] (by decide +kernel) (by decide +kernel)
set_option maxRecDepth 20000 in
theorem gX6_mend_X6_getsOf : GoodIn wsX6_mend (wsV RX6 146 RX6 yX6_getsOf wsX6_getsOf) := goodIn_app (goodIn_of _ (by decide +kernel)) ggX6_mend_X6_getsOf
theorem dX6_mend_0 : decode cX6_mend 0 = .ok (.aload_n 0, 1) := by decide +kernel
theorem dX6_mend_1 : decode cX6_mend 1 = .ok (.iconst 0, 1) := by decide +kernel
theorem dX6_mend_2 : decode cX6_mend 2 = .ok (.putfield 53, 3) := by decide +kernel
theorem dX6_mend_5 : decode cX6_mend 5 = .ok (.aload_n 0, 1) := by decide +kernel
theorem dX6_mend_6 : decode cX6_mend 6 = .ok (.iload_n 1, 1) := by decide +kernel
theorem dX6_mend_7 : decode cX6_mend 7 = .ok (.invokevirtual 116, 3) := by decide +kernel
theorem dX6_mend_10 : decode cX6_mend 10 = .ok (.ifCond .eq 5, 3) := by decide +kernel
theorem dX6_mend_13 : decode cX6_mend 13 = .ok (.iconst (-1), 1) := by decide +kernel
theorem dX6_mend_14 : decode cX6_mend 14 = .ok (.ireturn, 1) := by decide +kernel
theorem dX6_mend_15 : decode cX6_mend 15 = .ok (.bipush (-9), 2) := by decide +kernel
theorem dX6_mend_17 : decode cX6_mend 17 = .ok (.istore_n 2, 1) := by decide +kernel
theorem dX6_mend_18 : decode cX6_mend 18 = .ok (.bipush (-9), 2) := by decide +kernel
theorem dX6_mend_20 : decode cX6_mend 20 = .ok (.istore_n 3, 1) := by decide +kernel
theorem dX6_mend_21 : decode cX6_mend 21 = .ok (.iconst 0, 1) := by decide +kernel
theorem dX6_mend_22 : decode cX6_mend 22 = .ok (.istore 4, 2) := by decide +kernel
theorem dX6_mend_24 : decode cX6_mend 24 = .ok (.iload 4, 2) := by decide +kernel
theorem dX6_mend_26 : decode cX6_mend 26 = .ok (.aload_n 0, 1) := by decide +kernel
theorem dX6_mend_27 : decode cX6_mend 27 = .ok (.getfield 57, 3) := by decide +kernel
theorem dX6_mend_30 : decode cX6_mend 30 = .ok (.if_icmp .ge 61, 3) := by decide +kernel
theorem dX6_mend_33 : decode cX6_mend 33 = .ok (.aload_n 0, 1) := by decide +kernel
theorem dX6_mend_34 : decode cX6_mend 34 = .ok (.invokevirtual 155, 3) := by decide +kernel
theorem dX6_mend_37 : decode cX6_mend 37 = .ok (.aload_n 0, 1) := by decide +kernel
theorem dX6_mend_38 : decode cX6_mend 38 = .ok (.getfield 25, 3) := by decide +kernel
theorem dX6_mend_41 : decode cX6_mend 41 = .ok (.bipush 7, 2) := by decide +kernel
theorem dX6_mend_43 : decode cX6_mend 43 = .ok (.iload_n 1, 1) := by decide +kernel
theorem dX6_mend_44 : decode cX6_mend 44 = .ok (.iadd, 1) := by decide +kernel
theorem dX6_mend_45 : decode cX6_mend 45 = .ok (.iload 4, 2) := by decide +kernel
theorem dX6_mend_47 : decode cX6_mend 47 = .ok (.iastore, 1) := by decide +kernel
theorem dX6_mend_48 : decode cX6_mend 48 = .ok (.aload_n 0, 1) := by decide +kernel
theorem dX6_mend_49 : decode cX6_mend 49 = .ok (.aload_n 0, 1) := by decide +kernel
theorem dX6_mend_50 : decode cX6_mend 50 = .ok (.getfield 25, 3) := by decide +kernel
theorem dX6_mend_53 : decode cX6_mend 53 = .ok (.iload_n 1, 1) := by decide +kernel
theorem dX6_mend_54 : decode cX6_mend 54 = .ok (.invokevirtual 146, 3) := by decide +kernel
theorem dX6_mend_57 : decode cX6_mend 57 = .ok (.istore 5, 2) := by decide +kernel
theorem dX6_mend_59 : decode cX6_mend 59 = .ok (.iload 5, 2) := by decide +kernel
theorem dX6_mend_61 : decode cX6_mend 61 = .ok (.iload_n 3, 1) := by decide +kernel
theorem dX6_mend_62 : decode cX6_mend 62 = .ok (.if_icmp .le 8, 3) := by decide +kernel
theorem dX6_mend_65 : decode cX6_mend 65 = .ok (.iload 4, 2) := by decide +kernel
theorem dX6_mend_67 : decode cX6_mend 67 = .ok (.goto 4, 3) := by decide +kernel
theorem dX6_mend_70 : decode cX6_mend 70 = .ok (.iload_n 2, 1) := by decide +kernel
theorem dX6_mend_71 : decode cX6_mend 71 = .ok (.istore_n 2, 1) := by decide +kernel
theorem dX6_mend_72 : decode cX6_mend 72 = .ok (.iload 5, 2) := by decide +kernel
theorem dX6_mend_74 : decode cX6_mend 74 = .ok (.iload_n 3, 1) := by decide +kernel
theorem dX6_mend_75 : decode cX6_mend 75 = .ok (.if_icmp .le 8, 3) := by decide +kernel
theorem dX6_mend_78 : decode cX6_mend 78 = .ok (.iload 5, 2) := by decide +kernel
theorem dX6_mend_80 : decode cX6_mend 80 = .ok (.goto 4, 3) := by decide +kernel
theorem dX6_mend_83 : decode cX6_mend 83 = .ok (.iload_n 3, 1) := by decide +kernel
theorem dX6_mend_84 : decode cX6_mend 84 = .ok (.istore_n 3, 1) := by decide +kernel
theorem dX6_mend_85 : decode cX6_mend 85 = .ok (.iinc 4 1, 3) := by decide +kernel
theorem dX6_mend_88 : decode cX6_mend 88 = .ok (.goto (-64), 3) := by decide +kernel
theorem dX6_mend_91 : decode cX6_mend 91 = .ok (.iload_n 2, 1) := by decide +kernel
theorem dX6_mend_92 : decode cX6_mend 92 = .ok (.ireturn, 1) := by decide +kernel
theorem dX6_power_0 : decode cX6_power 0 = .ok (.iconst 1, 1) := by decide +kernel
theorem dX6_power_1 : decode cX6_power 1 = .ok (.istore_n 2, 1) := by decide +kernel
theorem dX6_power_2 : decode cX6_power 2 = .ok (.iconst 0, 1) := by decide +kernel
theorem dX6_power_3 : decode cX6_power 3 = .ok (.istore_n 3, 1) := by decide +kernel
theorem dX6_power_4 : decode cX6_power 4 = .ok (.iload_n 3, 1) := by decide +kernel
theorem dX6_power_5 : decode cX6_power 5 = .ok (.iload_n 1, 1) := by decide +kernel
theorem dX6_power_6 : decode cX6_power 6 = .ok (.if_icmp .ge 13, 3) := by decide +kernel
theorem dX6_power_9 : decode cX6_power 9 = .ok (.iload_n 2, 1) := by decide +kernel
theorem dX6_power_10 : decode cX6_power 10 = .ok (.iload_n 0, 1) := by decide +kernel
theorem dX6_power_11 : decode cX6_power 11 = .ok (.imul, 1) := by decide +kernel
theorem dX6_power_12 : decode cX6_power 12 = .ok (.istore_n 2, 1) := by decide +kernel
theorem dX6_power_13 : decode cX6_power 13 = .ok (.iinc 3 1, 3) := by decide +kernel
theorem dX6_power_16 : decode cX6_power 16 = .ok (.goto (-12), 3) := by decide +kernel
theorem dX6_power_19 : decode cX6_power 19 = .ok (.iload_n 2, 1) := by decide +kernel
theorem dX6_power_20 : decode cX6_power 20 = .ok (.ireturn, 1) := by decide +kernel
set_option maxRecDepth 20000 in
theorem ggX6_does_X6_goYear : GoodIn wsX6_does wsX6_goYear := goodIn_r _ [5] (by decide +kernel) (by decide +kernel)
set_option maxRecDepth 20000 in
theorem gX6_does_X6_goYear : GoodIn wsX6_does (va_wsS RX6 142 yX6_goYear wsX6_goYear) := goodIn_app (goodIn_of _ (by decide +kernel)) ggX6_does_X6_goYear
set_option maxRecDepth 20000 in
theorem ggX6_does_X6_noChild : GoodIn wsX6_does wsX6_noChild := goodIn_r _ [9, 10, 11, 12, 4, 13, 42, 43, 44, 45, 46, 47, 48, 49, 50, 51, 52, 53, 54, 55, 56, 57, 58, 59, 60, 61, 62, 63, 64, 65, 66, 67, 68, 69, 70, 71, 72, 73] (by decide +kernel) (by decide +kernel)
set_option maxRecDepth 20000 in
theorem gX6_does_X6_noChild : GoodIn wsX6_does (wsV RX6 116 RX6 yX6_noChild wsX6_noChild) := goodIn_app (goodIn_of _ (by decide +kernel)) ggX6_does_X6_noChild
set_option maxRecDepth 20000 in
theorem ggX6_does_X6_has : GoodIn wsX6_does wsX6_has := goodIn_r _ [16] (by decide +kernel) (by decide +kernel)
set_option maxRecDepth 20000 in
theorem gX6_does_X6_has : GoodIn wsX6_does (va_wsS RX6 97 yX6_has wsX6_has) := goodIn_app (goodIn_of _ (by decide +kernel)) ggX6_does_X6_has
set_option maxRecDepth 20000 in
theorem ggX6_does_X6_noHouse : GoodIn wsX6_does wsX6_noHouse := goodIn_r _ [20, 21, 11, 12, 4, 13, 42, 43, 44, 45, 46, 47, 48, 49, 50, 51, 52, 53, 54, 55, 56, 57, 58, 59, 60, 61, 62, 63, 64, 65, 66, 67, 68, 69, 70, 71, 72, 73] (by decide +kernel) (by decide +kernel)
set_option maxRecDepth 20000 in
theorem gX6_does_X6_noHouse : GoodIn wsX6_does (wsV RX6 120 RX6 yX6_noHouse wsX6_noHouse) := goodIn_app (goodIn_of _ (by decide +kernel)) ggX6_does_X6_noHouse
set_option maxRecDepth 20000 in
theorem ggX6_does_X6_heirsNow : GoodIn wsX6_does wsX6_heirsNow := goodIn_r _ [24, 25, 26, 4, 27, 14, 15, 16, 28, 29, 30, 31, 32, 33] (by decide +kernel) (by decide +kernel)
set_option maxRecDepth 20000 in
theorem gX6_does_X6_heirsNow : GoodIn wsX6_does (va_wsS RX6 125 yX6_heirsNow wsX6_heirsNow) := goodIn_app (goodIn_of _ (by decide +kernel)) ggX6_does_X6_heirsNow
set_option maxRecDepth 20000 in
theorem ggX6_does_X6_goInherit : GoodIn wsX6_does wsX6_goInherit := goodIn_r _ [37, 38, 14, 15, 4, 16, 39, 40, 41, 42, 43, 44, 45, 46, 47, 48, 49, 50, 51, 52, 53, 54, 55, 56, 57, 58, 59, 60, 61, 62, 63, 64, 65, 66, 67, 68, 69, 70, 71, 72, 73] (by decide +kernel) (by decide +kernel)
set_option maxRecDepth 20000 in
theorem gX6_does_X6_goInherit : GoodIn wsX6_does (wsV RX6 138 RX6 yX6_goInherit wsX6_goInherit) := goodIn_app (goodIn_of _ (by decide +kernel)) ggX6_does_X6_goInherit
theorem dX6_does_0 : decode cX6_does 0 = .ok (.iload_n 1, 1) := by decide +kernel
theorem dX6_does_1 : decode cX6_does 1 = .ok (.bipush 10, 2) := by decide +kernel
theorem dX6_does_3 : decode cX6_does 3 = .ok (.irem, 1) := by decide +kernel
theorem dX6_does_4 : decode cX6_does 4 = .ok (.istore_n 2, 1) := by decide +kernel
theorem dX6_does_5 : decode cX6_does 5 = .ok (.iload_n 1, 1) := by decide +kernel
theorem dX6_does_6 : decode cX6_does 6 = .ok (.ifCond .ne 12, 3) := by decide +kernel
theorem dX6_does_9 : decode cX6_does 9 = .ok (.aload_n 0, 1) := by decide +kernel
theorem dX6_does_10 : decode cX6_does 10 = .ok (.getfield 25, 3) := by decide +kernel
theorem dX6_does_13 : decode cX6_does 13 = .ok (.invokestatic 142, 3) := by decide +kernel
theorem dX6_does_16 : decode cX6_does 16 = .ok (.iconst 1, 1) := by decide +kernel
theorem dX6_does_17 : decode cX6_does 17 = .ok (.ireturn, 1) := by decide +kernel
theorem dX6_does_18 : decode cX6_does 18 = .ok (.iload_n 1, 1) := by decide +kernel
theorem dX6_does_19 : decode cX6_does 19 = .ok (.bipush 10, 2) := by decide +kernel
theorem dX6_does_21 : decode cX6_does 21 = .ok (.idiv, 1) := by decide +kernel
theorem dX6_does_22 : decode cX6_does 22 = .ok (.iconst 1, 1) := by decide +kernel
theorem dX6_does_23 : decode cX6_does 23 = .ok (.if_icmp .ne 56, 3) := by decide +kernel
theorem dX6_does_26 : decode cX6_does 26 = .ok (.aload_n 0, 1) := by decide +kernel
theorem dX6_does_27 : decode cX6_does 27 = .ok (.iload_n 2, 1) := by decide +kernel
theorem dX6_does_28 : decode cX6_does 28 = .ok (.invokevirtual 116, 3) := by decide +kernel
theorem dX6_does_31 : decode cX6_does 31 = .ok (.ifCond .ne 21, 3) := by decide +kernel
theorem dX6_does_34 : decode cX6_does 34 = .ok (.aload_n 0, 1) := by decide +kernel
theorem dX6_does_35 : decode cX6_does 35 = .ok (.getfield 25, 3) := by decide +kernel
theorem dX6_does_38 : decode cX6_does 38 = .ok (.bipush 21, 2) := by decide +kernel
theorem dX6_does_40 : decode cX6_does 40 = .ok (.iaload, 1) := by decide +kernel
theorem dX6_does_41 : decode cX6_does 41 = .ok (.iload_n 2, 1) := by decide +kernel
theorem dX6_does_42 : decode cX6_does 42 = .ok (.invokestatic 97, 3) := by decide +kernel
theorem dX6_does_45 : decode cX6_does 45 = .ok (.ifCond .eq 7, 3) := by decide +kernel
theorem dX6_does_48 : decode cX6_does 48 = .ok (.iconst 1, 1) := by decide +kernel
theorem dX6_does_49 : decode cX6_does 49 = .ok (.goto 4, 3) := by decide +kernel
theorem dX6_does_52 : decode cX6_does 52 = .ok (.iconst 0, 1) := by decide +kernel
theorem dX6_does_53 : decode cX6_does 53 = .ok (.istore_n 3, 1) := by decide +kernel
theorem dX6_does_54 : decode cX6_does 54 = .ok (.aload_n 0, 1) := by decide +kernel
theorem dX6_does_55 : decode cX6_does 55 = .ok (.getfield 25, 3) := by decide +kernel
theorem dX6_does_58 : decode cX6_does 58 = .ok (.bipush 21, 2) := by decide +kernel
theorem dX6_does_60 : decode cX6_does 60 = .ok (.dup2, 1) := by decide +kernel
theorem dX6_does_61 : decode cX6_does 61 = .ok (.iaload, 1) := by decide +kernel
theorem dX6_does_62 : decode cX6_does 62 = .ok (.iload_n 3, 1) := by decide +kernel
theorem dX6_does_63 : decode cX6_does 63 = .ok (.ifCond .eq 11, 3) := by decide +kernel
theorem dX6_does_66 : decode cX6_does 66 = .ok (.iconst 1, 1) := by decide +kernel
theorem dX6_does_67 : decode cX6_does 67 = .ok (.iload_n 2, 1) := by decide +kernel
theorem dX6_does_68 : decode cX6_does 68 = .ok (.ishl, 1) := by decide +kernel
theorem dX6_does_69 : decode cX6_does 69 = .ok (.iconst (-1), 1) := by decide +kernel
theorem dX6_does_70 : decode cX6_does 70 = .ok (.ixor, 1) := by decide +kernel
theorem dX6_does_71 : decode cX6_does 71 = .ok (.goto 4, 3) := by decide +kernel
theorem dX6_does_74 : decode cX6_does 74 = .ok (.iconst (-1), 1) := by decide +kernel
theorem dX6_does_75 : decode cX6_does 75 = .ok (.iand, 1) := by decide +kernel
theorem dX6_does_76 : decode cX6_does 76 = .ok (.iastore, 1) := by decide +kernel
theorem dX6_does_77 : decode cX6_does 77 = .ok (.iload_n 3, 1) := by decide +kernel
theorem dX6_does_78 : decode cX6_does 78 = .ok (.ireturn, 1) := by decide +kernel
theorem dX6_does_79 : decode cX6_does 79 = .ok (.iload_n 1, 1) := by decide +kernel
theorem dX6_does_80 : decode cX6_does 80 = .ok (.bipush 10, 2) := by decide +kernel
theorem dX6_does_82 : decode cX6_does 82 = .ok (.idiv, 1) := by decide +kernel
theorem dX6_does_83 : decode cX6_does 83 = .ok (.iconst 2, 1) := by decide +kernel
theorem dX6_does_84 : decode cX6_does 84 = .ok (.if_icmp .ne 42, 3) := by decide +kernel
theorem dX6_does_87 : decode cX6_does 87 = .ok (.aload_n 0, 1) := by decide +kernel
theorem dX6_does_88 : decode cX6_does 88 = .ok (.getfield 25, 3) := by decide +kernel
theorem dX6_does_91 : decode cX6_does 91 = .ok (.bipush 22, 2) := by decide +kernel
theorem dX6_does_93 : decode cX6_does 93 = .ok (.dup2, 1) := by decide +kernel
theorem dX6_does_94 : decode cX6_does 94 = .ok (.iaload, 1) := by decide +kernel
theorem dX6_does_95 : decode cX6_does 95 = .ok (.aload_n 0, 1) := by decide +kernel
theorem dX6_does_96 : decode cX6_does 96 = .ok (.iload_n 2, 1) := by decide +kernel
theorem dX6_does_97 : decode cX6_does 97 = .ok (.invokevirtual 120, 3) := by decide +kernel
theorem dX6_does_100 : decode cX6_does 100 = .ok (.ifCond .eq 7, 3) := by decide +kernel
theorem dX6_does_103 : decode cX6_does 103 = .ok (.iconst 0, 1) := by decide +kernel
theorem dX6_does_104 : decode cX6_does 104 = .ok (.goto 6, 3) := by decide +kernel
theorem dX6_does_107 : decode cX6_does 107 = .ok (.iconst 1, 1) := by decide +kernel
theorem dX6_does_108 : decode cX6_does 108 = .ok (.iload_n 2, 1) := by decide +kernel
theorem dX6_does_109 : decode cX6_does 109 = .ok (.ishl, 1) := by decide +kernel
theorem dX6_does_110 : decode cX6_does 110 = .ok (.ixor, 1) := by decide +kernel
theorem dX6_does_111 : decode cX6_does 111 = .ok (.iastore, 1) := by decide +kernel
theorem dX6_does_112 : decode cX6_does 112 = .ok (.aload_n 0, 1) := by decide +kernel
theorem dX6_does_113 : decode cX6_does 113 = .ok (.iload_n 2, 1) := by decide +kernel
theorem dX6_does_114 : decode cX6_does 114 = .ok (.invokevirtual 120, 3) := by decide +kernel
theorem dX6_does_117 : decode cX6_does 117 = .ok (.ifCond .ne 7, 3) := by decide +kernel
theorem dX6_does_120 : decode cX6_does 120 = .ok (.iconst 1, 1) := by decide +kernel
theorem dX6_does_121 : decode cX6_does 121 = .ok (.goto 4, 3) := by decide +kernel
theorem dX6_does_124 : decode cX6_does 124 = .ok (.iconst 0, 1) := by decide +kernel
theorem dX6_does_125 : decode cX6_does 125 = .ok (.ireturn, 1) := by decide +kernel
theorem dX6_does_126 : decode cX6_does 126 = .ok (.iload_n 1, 1) := by decide +kernel
theorem dX6_does_127 : decode cX6_does 127 = .ok (.bipush 10, 2) := by decide +kernel
theorem dX6_does_129 : decode cX6_does 129 = .ok (.idiv, 1) := by decide +kernel
theorem dX6_does_130 : decode cX6_does 130 = .ok (.iconst 3, 1) := by decide +kernel
theorem dX6_does_131 : decode cX6_does 131 = .ok (.if_icmp .ne 36, 3) := by decide +kernel
theorem dX6_does_134 : decode cX6_does 134 = .ok (.aload_n 0, 1) := by decide +kernel
theorem dX6_does_135 : decode cX6_does 135 = .ok (.iload_n 2, 1) := by decide +kernel
theorem dX6_does_136 : decode cX6_does 136 = .ok (.invokevirtual 120, 3) := by decide +kernel
theorem dX6_does_139 : decode cX6_does 139 = .ok (.ifCond .ne 28, 3) := by decide +kernel
theorem dX6_does_142 : decode cX6_does 142 = .ok (.aload_n 0, 1) := by decide +kernel
theorem dX6_does_143 : decode cX6_does 143 = .ok (.getfield 25, 3) := by decide +kernel
theorem dX6_does_146 : decode cX6_does 146 = .ok (.bipush 23, 2) := by decide +kernel
theorem dX6_does_148 : decode cX6_does 148 = .ok (.iaload, 1) := by decide +kernel
theorem dX6_does_149 : decode cX6_does 149 = .ok (.iload_n 2, 1) := by decide +kernel
theorem dX6_does_150 : decode cX6_does 150 = .ok (.invokestatic 97, 3) := by decide +kernel
theorem dX6_does_153 : decode cX6_does 153 = .ok (.ifCond .ne 14, 3) := by decide +kernel
theorem dX6_does_156 : decode cX6_does 156 = .ok (.aload_n 0, 1) := by decide +kernel
theorem dX6_does_157 : decode cX6_does 157 = .ok (.getfield 25, 3) := by decide +kernel
theorem dX6_does_160 : decode cX6_does 160 = .ok (.iload_n 2, 1) := by decide +kernel
theorem dX6_does_161 : decode cX6_does 161 = .ok (.invokestatic 125, 3) := by decide +kernel
theorem dX6_does_164 : decode cX6_does 164 = .ok (.ifCond .ne 5, 3) := by decide +kernel
theorem dX6_does_167 : decode cX6_does 167 = .ok (.iconst 0, 1) := by decide +kernel
theorem dX6_does_168 : decode cX6_does 168 = .ok (.ireturn, 1) := by decide +kernel
theorem dX6_does_169 : decode cX6_does 169 = .ok (.aload_n 0, 1) := by decide +kernel
theorem dX6_does_170 : decode cX6_does 170 = .ok (.aload_n 0, 1) := by decide +kernel
theorem dX6_does_171 : decode cX6_does 171 = .ok (.getfield 25, 3) := by decide +kernel
theorem dX6_does_174 : decode cX6_does 174 = .ok (.iload_n 2, 1) := by decide +kernel
theorem dX6_does_175 : decode cX6_does 175 = .ok (.aload_n 0, 1) := by decide +kernel
theorem dX6_does_176 : decode cX6_does 176 = .ok (.getfield 25, 3) := by decide +kernel
theorem dX6_does_179 : decode cX6_does 179 = .ok (.iload_n 2, 1) := by decide +kernel
theorem dX6_does_180 : decode cX6_does 180 = .ok (.invokestatic 125, 3) := by decide +kernel
theorem dX6_does_183 : decode cX6_does 183 = .ok (.invokevirtual 138, 3) := by decide +kernel
theorem dX6_does_186 : decode cX6_does 186 = .ok (.iconst 1, 1) := by decide +kernel
theorem dX6_does_187 : decode cX6_does 187 = .ok (.ireturn, 1) := by decide +kernel
set_option maxRecDepth 20000 in
theorem ggX6_judge_X6_in : GoodIn wsX6_judge wsX6_in := goodIn_r _ [6] (by decide +kernel) (by decide +kernel)
set_option maxRecDepth 20000 in
theorem gX6_judge_X6_in : GoodIn wsX6_judge (va_wsS RX6 60 yX6_in wsX6_in) := goodIn_app (goodIn_of _ (by decide +kernel)) ggX6_judge_X6_in
set_option maxRecDepth 20000 in
theorem ggX6_judge_X6_power : GoodIn wsX6_judge wsX6_power := goodIn_r _ [9] (by decide +kernel) (by decide +kernel)
set_option maxRecDepth 20000 in
theorem gX6_judge_X6_power : GoodIn wsX6_judge (va_wsS RX6 164 yX6_power wsX6_power) := goodIn_app (goodIn_of _ (by decide +kernel)) ggX6_judge_X6_power
set_option maxRecDepth 20000 in
theorem ggX6_judge_X6_begin : GoodIn wsX6_judge wsX6_begin := goodIn_r _ [13, 14, 15, 55, 56, 57, 58, 59, 60, 61, 62, 63, 64, 65, 66, 67, 68, 69, 70, 71, 72, 73, 74, 75, 76, 77, 78, 79, 80, 81, 82, 83, 84, 85, 86] (by decide +kernel) (by decide +kernel)
set_option maxRecDepth 20000 in
theorem gX6_judge_X6_begin : GoodIn wsX6_judge (wsV RX6 155 RX6 yX6_begin wsX6_begin) := goodIn_app (goodIn_of _ (by decide +kernel)) ggX6_judge_X6_begin
set_option maxRecDepth 20000 in
theorem ggX6_judge_X6_does : GoodIn wsX6_judge wsX6_does := goodIn_r _ [19, 14, 20, 21, 5, 22, 23, 24, 25, 26, 15, 3, 4, 6, 27, 28, 29, 30, 31, 32, 33, 34, 35, 36, 37, 38, 39, 40, 41, 42, 43, 44, 45, 46, 47, 48, 49, 50, 51, 52, 53, 54, 55, 56, 57, 58, 59, 60, 61, 62, 63, 64, 65, 66, 67, 68, 69, 70, 71, 72, 73, 74, 75, 76, 77, 78, 79, 80, 81, 82, 83, 84, 85, 86] (by decide +kernel) (by decide +kernel)
set_option maxRecDepth 20000 in
theorem gX6_judge_X6_does : GoodIn wsX6_judge (wsV RX6 167 RX6 yX6_does wsX6_does) := goodIn_app (goodIn_of _ (by decide +kernel)) ggX6_judge_X6_does
theorem dX6_judge_0 : decode cX6_judge 0 = .ok (.aload_n 0, 1) := by decide +kernel
theorem dX6_judge_1 : decode cX6_judge 1 = .ok (.iconst 0, 1) := by decide +kernel
theorem dX6_judge_2 : decode cX6_judge 2 = .ok (.putfield 53, 3) := by decide +kernel
theorem dX6_judge_5 : decode cX6_judge 5 = .ok (.iload_n 1, 1) := by decide +kernel
theorem dX6_judge_6 : decode cX6_judge 6 = .ok (.i2l, 1) := by decide +kernel
theorem dX6_judge_7 : decode cX6_judge 7 = .ok (.lconst 1, 1) := by decide +kernel
theorem dX6_judge_8 : decode cX6_judge 8 = .ok (.ldc2_w 162, 3) := by decide +kernel
theorem dX6_judge_11 : decode cX6_judge 11 = .ok (.invokestatic 60, 3) := by decide +kernel
theorem dX6_judge_14 : decode cX6_judge 14 = .ok (.ifCond .eq 21, 3) := by decide +kernel
theorem dX6_judge_17 : decode cX6_judge 17 = .ok (.iload_n 2, 1) := by decide +kernel
theorem dX6_judge_18 : decode cX6_judge 18 = .ok (.i2l, 1) := by decide +kernel
theorem dX6_judge_19 : decode cX6_judge 19 = .ok (.lconst 0, 1) := by decide +kernel
theorem dX6_judge_20 : decode cX6_judge 20 = .ok (.bipush 100, 2) := by decide +kernel
theorem dX6_judge_22 : decode cX6_judge 22 = .ok (.iload_n 1, 1) := by decide +kernel
theorem dX6_judge_23 : decode cX6_judge 23 = .ok (.invokestatic 164, 3) := by decide +kernel
theorem dX6_judge_26 : decode cX6_judge 26 = .ok (.iconst 1, 1) := by decide +kernel
theorem dX6_judge_27 : decode cX6_judge 27 = .ok (.isub, 1) := by decide +kernel
theorem dX6_judge_28 : decode cX6_judge 28 = .ok (.i2l, 1) := by decide +kernel
theorem dX6_judge_29 : decode cX6_judge 29 = .ok (.invokestatic 60, 3) := by decide +kernel
theorem dX6_judge_32 : decode cX6_judge 32 = .ok (.ifCond .ne 6, 3) := by decide +kernel
theorem dX6_judge_35 : decode cX6_judge 35 = .ok (.bipush (-2), 2) := by decide +kernel
theorem dX6_judge_37 : decode cX6_judge 37 = .ok (.ireturn, 1) := by decide +kernel
theorem dX6_judge_38 : decode cX6_judge 38 = .ok (.aload_n 0, 1) := by decide +kernel
theorem dX6_judge_39 : decode cX6_judge 39 = .ok (.invokevirtual 155, 3) := by decide +kernel
theorem dX6_judge_42 : decode cX6_judge 42 = .ok (.iconst 0, 1) := by decide +kernel
theorem dX6_judge_43 : decode cX6_judge 43 = .ok (.istore_n 3, 1) := by decide +kernel
theorem dX6_judge_44 : decode cX6_judge 44 = .ok (.iload_n 3, 1) := by decide +kernel
theorem dX6_judge_45 : decode cX6_judge 45 = .ok (.iload_n 1, 1) := by decide +kernel
theorem dX6_judge_46 : decode cX6_judge 46 = .ok (.if_icmp .ge 33, 3) := by decide +kernel
theorem dX6_judge_49 : decode cX6_judge 49 = .ok (.aload_n 0, 1) := by decide +kernel
theorem dX6_judge_50 : decode cX6_judge 50 = .ok (.iload_n 2, 1) := by decide +kernel
theorem dX6_judge_51 : decode cX6_judge 51 = .ok (.bipush 100, 2) := by decide +kernel
theorem dX6_judge_53 : decode cX6_judge 53 = .ok (.iload_n 1, 1) := by decide +kernel
theorem dX6_judge_54 : decode cX6_judge 54 = .ok (.iconst 1, 1) := by decide +kernel
theorem dX6_judge_55 : decode cX6_judge 55 = .ok (.isub, 1) := by decide +kernel
theorem dX6_judge_56 : decode cX6_judge 56 = .ok (.iload_n 3, 1) := by decide +kernel
theorem dX6_judge_57 : decode cX6_judge 57 = .ok (.isub, 1) := by decide +kernel
theorem dX6_judge_58 : decode cX6_judge 58 = .ok (.invokestatic 164, 3) := by decide +kernel
theorem dX6_judge_61 : decode cX6_judge 61 = .ok (.idiv, 1) := by decide +kernel
theorem dX6_judge_62 : decode cX6_judge 62 = .ok (.bipush 100, 2) := by decide +kernel
theorem dX6_judge_64 : decode cX6_judge 64 = .ok (.irem, 1) := by decide +kernel
theorem dX6_judge_65 : decode cX6_judge 65 = .ok (.invokevirtual 167, 3) := by decide +kernel
theorem dX6_judge_68 : decode cX6_judge 68 = .ok (.ifCond .ne 5, 3) := by decide +kernel
theorem dX6_judge_71 : decode cX6_judge 71 = .ok (.iload_n 3, 1) := by decide +kernel
theorem dX6_judge_72 : decode cX6_judge 72 = .ok (.ireturn, 1) := by decide +kernel
theorem dX6_judge_73 : decode cX6_judge 73 = .ok (.iinc 3 1, 3) := by decide +kernel
theorem dX6_judge_76 : decode cX6_judge 76 = .ok (.goto (-32), 3) := by decide +kernel
theorem dX6_judge_79 : decode cX6_judge 79 = .ok (.bipush (-9), 2) := by decide +kernel
theorem dX6_judge_81 : decode cX6_judge 81 = .ok (.ireturn, 1) := by decide +kernel
theorem dX6_ways_0 : decode cX6_ways 0 = .ok (.iconst 1, 1) := by decide +kernel
theorem dX6_ways_1 : decode cX6_ways 1 = .ok (.istore_n 1, 1) := by decide +kernel
theorem dX6_ways_2 : decode cX6_ways 2 = .ok (.iconst 2, 1) := by decide +kernel
theorem dX6_ways_3 : decode cX6_ways 3 = .ok (.istore_n 2, 1) := by decide +kernel
theorem dX6_ways_4 : decode cX6_ways 4 = .ok (.iload_n 2, 1) := by decide +kernel
theorem dX6_ways_5 : decode cX6_ways 5 = .ok (.iload_n 0, 1) := by decide +kernel
theorem dX6_ways_6 : decode cX6_ways 6 = .ok (.if_icmp .gt 13, 3) := by decide +kernel
theorem dX6_ways_9 : decode cX6_ways 9 = .ok (.iload_n 1, 1) := by decide +kernel
theorem dX6_ways_10 : decode cX6_ways 10 = .ok (.iload_n 2, 1) := by decide +kernel
theorem dX6_ways_11 : decode cX6_ways 11 = .ok (.imul, 1) := by decide +kernel
theorem dX6_ways_12 : decode cX6_ways 12 = .ok (.istore_n 1, 1) := by decide +kernel
theorem dX6_ways_13 : decode cX6_ways 13 = .ok (.iinc 2 1, 3) := by decide +kernel
theorem dX6_ways_16 : decode cX6_ways 16 = .ok (.goto (-12), 3) := by decide +kernel
theorem dX6_ways_19 : decode cX6_ways 19 = .ok (.iload_n 1, 1) := by decide +kernel
theorem dX6_ways_20 : decode cX6_ways 20 = .ok (.ireturn, 1) := by decide +kernel
theorem dX6_divisor_0 : decode cX6_divisor 0 = .ok (.iload_n 0, 1) := by decide +kernel
theorem dX6_divisor_1 : decode cX6_divisor 1 = .ok (.ifCond .ge 8, 3) := by decide +kernel
theorem dX6_divisor_4 : decode cX6_divisor 4 = .ok (.iload_n 0, 1) := by decide +kernel
theorem dX6_divisor_5 : decode cX6_divisor 5 = .ok (.ineg, 1) := by decide +kernel
theorem dX6_divisor_6 : decode cX6_divisor 6 = .ok (.goto 4, 3) := by decide +kernel
theorem dX6_divisor_9 : decode cX6_divisor 9 = .ok (.iload_n 0, 1) := by decide +kernel
theorem dX6_divisor_10 : decode cX6_divisor 10 = .ok (.istore_n 2, 1) := by decide +kernel
theorem dX6_divisor_11 : decode cX6_divisor 11 = .ok (.iload_n 1, 1) := by decide +kernel
theorem dX6_divisor_12 : decode cX6_divisor 12 = .ok (.istore_n 3, 1) := by decide +kernel
theorem dX6_divisor_13 : decode cX6_divisor 13 = .ok (.iload_n 3, 1) := by decide +kernel
theorem dX6_divisor_14 : decode cX6_divisor 14 = .ok (.ifCond .eq 16, 3) := by decide +kernel
theorem dX6_divisor_17 : decode cX6_divisor 17 = .ok (.iload_n 2, 1) := by decide +kernel
theorem dX6_divisor_18 : decode cX6_divisor 18 = .ok (.iload_n 3, 1) := by decide +kernel
theorem dX6_divisor_19 : decode cX6_divisor 19 = .ok (.irem, 1) := by decide +kernel
theorem dX6_divisor_20 : decode cX6_divisor 20 = .ok (.istore 4, 2) := by decide +kernel
theorem dX6_divisor_22 : decode cX6_divisor 22 = .ok (.iload_n 3, 1) := by decide +kernel
theorem dX6_divisor_23 : decode cX6_divisor 23 = .ok (.istore_n 2, 1) := by decide +kernel
theorem dX6_divisor_24 : decode cX6_divisor 24 = .ok (.iload 4, 2) := by decide +kernel
theorem dX6_divisor_26 : decode cX6_divisor 26 = .ok (.istore_n 3, 1) := by decide +kernel
theorem dX6_divisor_27 : decode cX6_divisor 27 = .ok (.goto (-14), 3) := by decide +kernel
theorem dX6_divisor_30 : decode cX6_divisor 30 = .ok (.iload_n 2, 1) := by decide +kernel
theorem dX6_divisor_31 : decode cX6_divisor 31 = .ok (.ireturn, 1) := by decide +kernel
set_option maxRecDepth 20000 in
theorem ggX6_fraction_X6_divisor : GoodIn wsX6_fraction wsX6_divisor := goodIn_r _ [4] (by decide +kernel) (by decide +kernel)
set_option maxRecDepth 20000 in
theorem gX6_fraction_X6_divisor : GoodIn wsX6_fraction (va_wsS RX6 170 yX6_divisor wsX6_divisor) := goodIn_app (goodIn_of _ (by decide +kernel)) ggX6_fraction_X6_divisor
theorem dX6_fraction_0 : decode cX6_fraction 0 = .ok (.iload_n 0, 1) := by decide +kernel
theorem dX6_fraction_1 : decode cX6_fraction 1 = .ok (.iload_n 1, 1) := by decide +kernel
theorem dX6_fraction_2 : decode cX6_fraction 2 = .ok (.invokestatic 170, 3) := by decide +kernel
theorem dX6_fraction_5 : decode cX6_fraction 5 = .ok (.istore_n 3, 1) := by decide +kernel
theorem dX6_fraction_6 : decode cX6_fraction 6 = .ok (.iload_n 2, 1) := by decide +kernel
theorem dX6_fraction_7 : decode cX6_fraction 7 = .ok (.ifCond .eq 9, 3) := by decide +kernel
theorem dX6_fraction_10 : decode cX6_fraction 10 = .ok (.iload_n 0, 1) := by decide +kernel
theorem dX6_fraction_11 : decode cX6_fraction 11 = .ok (.iload_n 3, 1) := by decide +kernel
theorem dX6_fraction_12 : decode cX6_fraction 12 = .ok (.idiv, 1) := by decide +kernel
theorem dX6_fraction_13 : decode cX6_fraction 13 = .ok (.goto 6, 3) := by decide +kernel
theorem dX6_fraction_16 : decode cX6_fraction 16 = .ok (.iload_n 1, 1) := by decide +kernel
theorem dX6_fraction_17 : decode cX6_fraction 17 = .ok (.iload_n 3, 1) := by decide +kernel
theorem dX6_fraction_18 : decode cX6_fraction 18 = .ok (.idiv, 1) := by decide +kernel
theorem dX6_fraction_19 : decode cX6_fraction 19 = .ok (.ireturn, 1) := by decide +kernel
set_option maxRecDepth 20000 in
theorem ggX6_share_X6_noChild : GoodIn wsX6_share wsX6_noChild := goodIn_r _ [9, 2, 10, 11, 8, 12, 37, 38, 39, 40, 41, 42, 43, 44, 45, 46, 47, 48, 49, 50, 51, 52, 53, 54, 55, 56, 57, 58, 59, 60, 61, 62, 63, 64, 65, 66, 67, 68] (by decide +kernel) (by decide +kernel)
set_option maxRecDepth 20000 in
theorem gX6_share_X6_noChild : GoodIn wsX6_share (wsV RX6 116 RX6 yX6_noChild wsX6_noChild) := goodIn_app (goodIn_of _ (by decide +kernel)) ggX6_share_X6_noChild
set_option maxRecDepth 20000 in
theorem ggX6_share_X6_many : GoodIn wsX6_share wsX6_many := goodIn_r _ [15] (by decide +kernel) (by decide +kernel)
set_option maxRecDepth 20000 in
theorem gX6_share_X6_many : GoodIn wsX6_share (va_wsS RX6 134 yX6_many wsX6_many) := goodIn_app (goodIn_of _ (by decide +kernel)) ggX6_share_X6_many
set_option maxRecDepth 20000 in
theorem ggX6_share_X6_heirsOf : GoodIn wsX6_share wsX6_heirsOf := goodIn_r _ [18, 19, 20, 8, 21, 22, 23, 24, 25, 26, 27] (by decide +kernel) (by decide +kernel)
set_option maxRecDepth 20000 in
theorem gX6_share_X6_heirsOf : GoodIn wsX6_share (va_wsS RX6 109 yX6_heirsOf wsX6_heirsOf) := goodIn_app (goodIn_of _ (by decide +kernel)) ggX6_share_X6_heirsOf
set_option maxRecDepth 20000 in
theorem ggX6_share_X6_has : GoodIn wsX6_share wsX6_has := goodIn_r _ [21] (by decide +kernel) (by decide +kernel)
set_option maxRecDepth 20000 in
theorem gX6_share_X6_has : GoodIn wsX6_share (va_wsS RX6 97 yX6_has wsX6_has) := goodIn_app (goodIn_of _ (by decide +kernel)) ggX6_share_X6_has
set_option maxRecDepth 20000 in
theorem ggX6_share_X6_ways : GoodIn wsX6_share wsX6_ways := goodIn_r _ [30] (by decide +kernel) (by decide +kernel)
set_option maxRecDepth 20000 in
theorem gX6_share_X6_ways : GoodIn wsX6_share (va_wsS RX6 173 yX6_ways wsX6_ways) := goodIn_app (goodIn_of _ (by decide +kernel)) ggX6_share_X6_ways
set_option maxRecDepth 20000 in
theorem ggX6_share_X6_fraction : GoodIn wsX6_share wsX6_fraction := goodIn_r _ [33, 34, 35, 8, 36] (by decide +kernel) (by decide +kernel)
set_option maxRecDepth 20000 in
theorem gX6_share_X6_fraction : GoodIn wsX6_share (va_wsS RX6 176 yX6_fraction wsX6_fraction) := goodIn_app (goodIn_of _ (by decide +kernel)) ggX6_share_X6_fraction
theorem dX6_share_0 : decode cX6_share 0 = .ok (.aload_n 0, 1) := by decide +kernel
theorem dX6_share_1 : decode cX6_share 1 = .ok (.iconst 0, 1) := by decide +kernel
theorem dX6_share_2 : decode cX6_share 2 = .ok (.putfield 53, 3) := by decide +kernel
theorem dX6_share_5 : decode cX6_share 5 = .ok (.aload_n 0, 1) := by decide +kernel
theorem dX6_share_6 : decode cX6_share 6 = .ok (.iload_n 1, 1) := by decide +kernel
theorem dX6_share_7 : decode cX6_share 7 = .ok (.invokevirtual 116, 3) := by decide +kernel
theorem dX6_share_10 : decode cX6_share 10 = .ok (.ifCond .eq 5, 3) := by decide +kernel
theorem dX6_share_13 : decode cX6_share 13 = .ok (.iconst (-1), 1) := by decide +kernel
theorem dX6_share_14 : decode cX6_share 14 = .ok (.ireturn, 1) := by decide +kernel
theorem dX6_share_15 : decode cX6_share 15 = .ok (.aload_n 0, 1) := by decide +kernel
theorem dX6_share_16 : decode cX6_share 16 = .ok (.getfield 22, 3) := by decide +kernel
theorem dX6_share_19 : decode cX6_share 19 = .ok (.bipush 21, 2) := by decide +kernel
theorem dX6_share_21 : decode cX6_share 21 = .ok (.iaload, 1) := by decide +kernel
theorem dX6_share_22 : decode cX6_share 22 = .ok (.istore_n 3, 1) := by decide +kernel
theorem dX6_share_23 : decode cX6_share 23 = .ok (.iload_n 3, 1) := by decide +kernel
theorem dX6_share_24 : decode cX6_share 24 = .ok (.invokestatic 134, 3) := by decide +kernel
theorem dX6_share_27 : decode cX6_share 27 = .ok (.istore 4, 2) := by decide +kernel
theorem dX6_share_29 : decode cX6_share 29 = .ok (.iconst 0, 1) := by decide +kernel
theorem dX6_share_30 : decode cX6_share 30 = .ok (.istore 5, 2) := by decide +kernel
theorem dX6_share_32 : decode cX6_share 32 = .ok (.iload 5, 2) := by decide +kernel
theorem dX6_share_34 : decode cX6_share 34 = .ok (.iload_n 3, 1) := by decide +kernel
theorem dX6_share_35 : decode cX6_share 35 = .ok (.if_icmp .gt 67, 3) := by decide +kernel
theorem dX6_share_38 : decode cX6_share 38 = .ok (.aload_n 0, 1) := by decide +kernel
theorem dX6_share_39 : decode cX6_share 39 = .ok (.getfield 50, 3) := by decide +kernel
theorem dX6_share_42 : decode cX6_share 42 = .ok (.iload 5, 2) := by decide +kernel
theorem dX6_share_44 : decode cX6_share 44 = .ok (.iconst 0, 1) := by decide +kernel
theorem dX6_share_45 : decode cX6_share 45 = .ok (.iastore, 1) := by decide +kernel
theorem dX6_share_46 : decode cX6_share 46 = .ok (.iconst 0, 1) := by decide +kernel
theorem dX6_share_47 : decode cX6_share 47 = .ok (.istore 6, 2) := by decide +kernel
theorem dX6_share_49 : decode cX6_share 49 = .ok (.iload 6, 2) := by decide +kernel
theorem dX6_share_51 : decode cX6_share 51 = .ok (.aload_n 0, 1) := by decide +kernel
theorem dX6_share_52 : decode cX6_share 52 = .ok (.getfield 57, 3) := by decide +kernel
theorem dX6_share_55 : decode cX6_share 55 = .ok (.if_icmp .ge 41, 3) := by decide +kernel
theorem dX6_share_58 : decode cX6_share 58 = .ok (.aload_n 0, 1) := by decide +kernel
theorem dX6_share_59 : decode cX6_share 59 = .ok (.getfield 50, 3) := by decide +kernel
theorem dX6_share_62 : decode cX6_share 62 = .ok (.iload 5, 2) := by decide +kernel
theorem dX6_share_64 : decode cX6_share 64 = .ok (.dup2, 1) := by decide +kernel
theorem dX6_share_65 : decode cX6_share 65 = .ok (.iaload, 1) := by decide +kernel
theorem dX6_share_66 : decode cX6_share 66 = .ok (.aload_n 0, 1) := by decide +kernel
theorem dX6_share_67 : decode cX6_share 67 = .ok (.getfield 22, 3) := by decide +kernel
theorem dX6_share_70 : decode cX6_share 70 = .ok (.iload 6, 2) := by decide +kernel
theorem dX6_share_72 : decode cX6_share 72 = .ok (.iconst 0, 1) := by decide +kernel
theorem dX6_share_73 : decode cX6_share 73 = .ok (.iload 5, 2) := by decide +kernel
theorem dX6_share_75 : decode cX6_share 75 = .ok (.iload_n 3, 1) := by decide +kernel
theorem dX6_share_76 : decode cX6_share 76 = .ok (.iand, 1) := by decide +kernel
theorem dX6_share_77 : decode cX6_share 77 = .ok (.invokestatic 109, 3) := by decide +kernel
theorem dX6_share_80 : decode cX6_share 80 = .ok (.ifCond .ne 7, 3) := by decide +kernel
theorem dX6_share_83 : decode cX6_share 83 = .ok (.iconst 0, 1) := by decide +kernel
theorem dX6_share_84 : decode cX6_share 84 = .ok (.goto 4, 3) := by decide +kernel
theorem dX6_share_87 : decode cX6_share 87 = .ok (.iconst 1, 1) := by decide +kernel
theorem dX6_share_88 : decode cX6_share 88 = .ok (.iadd, 1) := by decide +kernel
theorem dX6_share_89 : decode cX6_share 89 = .ok (.iastore, 1) := by decide +kernel
theorem dX6_share_90 : decode cX6_share 90 = .ok (.iinc 6 1, 3) := by decide +kernel
theorem dX6_share_93 : decode cX6_share 93 = .ok (.goto (-44), 3) := by decide +kernel
theorem dX6_share_96 : decode cX6_share 96 = .ok (.iinc 5 1, 3) := by decide +kernel
theorem dX6_share_99 : decode cX6_share 99 = .ok (.goto (-67), 3) := by decide +kernel
theorem dX6_share_102 : decode cX6_share 102 = .ok (.iconst 0, 1) := by decide +kernel
theorem dX6_share_103 : decode cX6_share 103 = .ok (.istore 5, 2) := by decide +kernel
theorem dX6_share_105 : decode cX6_share 105 = .ok (.iconst 0, 1) := by decide +kernel
theorem dX6_share_106 : decode cX6_share 106 = .ok (.istore 6, 2) := by decide +kernel
theorem dX6_share_108 : decode cX6_share 108 = .ok (.iload 6, 2) := by decide +kernel
theorem dX6_share_110 : decode cX6_share 110 = .ok (.iload_n 3, 1) := by decide +kernel
theorem dX6_share_111 : decode cX6_share 111 = .ok (.if_icmp .gt 83, 3) := by decide +kernel
theorem dX6_share_114 : decode cX6_share 114 = .ok (.iload_n 3, 1) := by decide +kernel
theorem dX6_share_115 : decode cX6_share 115 = .ok (.iload_n 1, 1) := by decide +kernel
theorem dX6_share_116 : decode cX6_share 116 = .ok (.invokestatic 97, 3) := by decide +kernel
theorem dX6_share_119 : decode cX6_share 119 = .ok (.ifCond .eq 75, 3) := by decide +kernel
theorem dX6_share_122 : decode cX6_share 122 = .ok (.iload 6, 2) := by decide +kernel
theorem dX6_share_124 : decode cX6_share 124 = .ok (.iload_n 3, 1) := by decide +kernel
theorem dX6_share_125 : decode cX6_share 125 = .ok (.iconst (-1), 1) := by decide +kernel
theorem dX6_share_126 : decode cX6_share 126 = .ok (.ixor, 1) := by decide +kernel
theorem dX6_share_127 : decode cX6_share 127 = .ok (.iand, 1) := by decide +kernel
theorem dX6_share_128 : decode cX6_share 128 = .ok (.ifCond .ne 60, 3) := by decide +kernel
theorem dX6_share_131 : decode cX6_share 131 = .ok (.iload 6, 2) := by decide +kernel
theorem dX6_share_133 : decode cX6_share 133 = .ok (.iload_n 1, 1) := by decide +kernel
theorem dX6_share_134 : decode cX6_share 134 = .ok (.invokestatic 97, 3) := by decide +kernel
theorem dX6_share_137 : decode cX6_share 137 = .ok (.ifCond .ne 51, 3) := by decide +kernel
theorem dX6_share_140 : decode cX6_share 140 = .ok (.iload 6, 2) := by decide +kernel
theorem dX6_share_142 : decode cX6_share 142 = .ok (.invokestatic 134, 3) := by decide +kernel
theorem dX6_share_145 : decode cX6_share 145 = .ok (.istore 7, 2) := by decide +kernel
theorem dX6_share_147 : decode cX6_share 147 = .ok (.iload 5, 2) := by decide +kernel
theorem dX6_share_149 : decode cX6_share 149 = .ok (.iload 7, 2) := by decide +kernel
theorem dX6_share_151 : decode cX6_share 151 = .ok (.invokestatic 173, 3) := by decide +kernel
theorem dX6_share_154 : decode cX6_share 154 = .ok (.iload 4, 2) := by decide +kernel
theorem dX6_share_156 : decode cX6_share 156 = .ok (.iconst 1, 1) := by decide +kernel
theorem dX6_share_157 : decode cX6_share 157 = .ok (.isub, 1) := by decide +kernel
theorem dX6_share_158 : decode cX6_share 158 = .ok (.iload 7, 2) := by decide +kernel
theorem dX6_share_160 : decode cX6_share 160 = .ok (.isub, 1) := by decide +kernel
theorem dX6_share_161 : decode cX6_share 161 = .ok (.invokestatic 173, 3) := by decide +kernel
theorem dX6_share_164 : decode cX6_share 164 = .ok (.imul, 1) := by decide +kernel
theorem dX6_share_165 : decode cX6_share 165 = .ok (.aload_n 0, 1) := by decide +kernel
theorem dX6_share_166 : decode cX6_share 166 = .ok (.getfield 50, 3) := by decide +kernel
theorem dX6_share_169 : decode cX6_share 169 = .ok (.iload 6, 2) := by decide +kernel
theorem dX6_share_171 : decode cX6_share 171 = .ok (.iconst 1, 1) := by decide +kernel
theorem dX6_share_172 : decode cX6_share 172 = .ok (.iload_n 1, 1) := by decide +kernel
theorem dX6_share_173 : decode cX6_share 173 = .ok (.ishl, 1) := by decide +kernel
theorem dX6_share_174 : decode cX6_share 174 = .ok (.ior, 1) := by decide +kernel
theorem dX6_share_175 : decode cX6_share 175 = .ok (.iaload, 1) := by decide +kernel
theorem dX6_share_176 : decode cX6_share 176 = .ok (.aload_n 0, 1) := by decide +kernel
theorem dX6_share_177 : decode cX6_share 177 = .ok (.getfield 50, 3) := by decide +kernel
theorem dX6_share_180 : decode cX6_share 180 = .ok (.iload 6, 2) := by decide +kernel
theorem dX6_share_182 : decode cX6_share 182 = .ok (.iaload, 1) := by decide +kernel
theorem dX6_share_183 : decode cX6_share 183 = .ok (.isub, 1) := by decide +kernel
theorem dX6_share_184 : decode cX6_share 184 = .ok (.imul, 1) := by decide +kernel
theorem dX6_share_185 : decode cX6_share 185 = .ok (.iadd, 1) := by decide +kernel
theorem dX6_share_186 : decode cX6_share 186 = .ok (.istore 5, 2) := by decide +kernel
theorem dX6_share_188 : decode cX6_share 188 = .ok (.iinc 6 1, 3) := by decide +kernel
theorem dX6_share_191 : decode cX6_share 191 = .ok (.goto (-83), 3) := by decide +kernel
theorem dX6_share_194 : decode cX6_share 194 = .ok (.iload 5, 2) := by decide +kernel
theorem dX6_share_196 : decode cX6_share 196 = .ok (.iload 4, 2) := by decide +kernel
theorem dX6_share_198 : decode cX6_share 198 = .ok (.invokestatic 173, 3) := by decide +kernel
theorem dX6_share_201 : decode cX6_share 201 = .ok (.iload_n 2, 1) := by decide +kernel
theorem dX6_share_202 : decode cX6_share 202 = .ok (.invokestatic 176, 3) := by decide +kernel
theorem dX6_share_205 : decode cX6_share 205 = .ok (.ireturn, 1) := by decide +kernel
set_option maxRecDepth 20000 in
theorem ggX6_see_X6_noHouse : GoodIn wsX6_see wsX6_noHouse := goodIn_r _ [11, 12, 13, 14, 10, 15, 23, 24, 25, 26, 27, 28, 29, 30, 31, 32, 33, 34, 35, 36, 37, 38, 39, 40, 41, 42, 43, 44, 45, 46, 47, 48, 49, 50, 51, 52, 53, 54] (by decide +kernel) (by decide +kernel)
set_option maxRecDepth 20000 in
theorem gX6_see_X6_noHouse : GoodIn wsX6_see (wsV RX6 120 RX6 yX6_noHouse wsX6_noHouse) := goodIn_app (goodIn_of _ (by decide +kernel)) ggX6_see_X6_noHouse
set_option maxRecDepth 20000 in
theorem ggX6_see_X6_noChild : GoodIn wsX6_see wsX6_noChild := goodIn_r _ [19, 2, 13, 14, 10, 15, 23, 24, 25, 26, 27, 28, 29, 30, 31, 32, 33, 34, 35, 36, 37, 38, 39, 40, 41, 42, 43, 44, 45, 46, 47, 48, 49, 50, 51, 52, 53, 54] (by decide +kernel) (by decide +kernel)
set_option maxRecDepth 20000 in
theorem gX6_see_X6_noChild : GoodIn wsX6_see (wsV RX6 116 RX6 yX6_noChild wsX6_noChild) := goodIn_app (goodIn_of _ (by decide +kernel)) ggX6_see_X6_noChild
set_option maxRecDepth 20000 in
theorem ggX6_see_X6_in : GoodIn wsX6_see wsX6_in := goodIn_r _ [15] (by decide +kernel) (by decide +kernel)
set_option maxRecDepth 20000 in
theorem gX6_see_X6_in : GoodIn wsX6_see (va_wsS RX6 60 yX6_in wsX6_in) := goodIn_app (goodIn_of _ (by decide +kernel)) ggX6_see_X6_in
set_option maxRecDepth 20000 in
theorem ggX6_see_X6_has : GoodIn wsX6_see wsX6_has := goodIn_r _ [22] (by decide +kernel) (by decide +kernel)
set_option maxRecDepth 20000 in
theorem gX6_see_X6_has : GoodIn wsX6_see (va_wsS RX6 97 yX6_has wsX6_has) := goodIn_app (goodIn_of _ (by decide +kernel)) ggX6_see_X6_has
theorem dX6_see_0 : decode cX6_see 0 = .ok (.aload_n 0, 1) := by decide +kernel
theorem dX6_see_1 : decode cX6_see 1 = .ok (.iconst 0, 1) := by decide +kernel
theorem dX6_see_2 : decode cX6_see 2 = .ok (.putfield 53, 3) := by decide +kernel
theorem dX6_see_5 : decode cX6_see 5 = .ok (.aload_n 0, 1) := by decide +kernel
theorem dX6_see_6 : decode cX6_see 6 = .ok (.iload_n 1, 1) := by decide +kernel
theorem dX6_see_7 : decode cX6_see 7 = .ok (.invokevirtual 120, 3) := by decide +kernel
theorem dX6_see_10 : decode cX6_see 10 = .ok (.ifCond .ne 11, 3) := by decide +kernel
theorem dX6_see_13 : decode cX6_see 13 = .ok (.aload_n 0, 1) := by decide +kernel
theorem dX6_see_14 : decode cX6_see 14 = .ok (.iload_n 2, 1) := by decide +kernel
theorem dX6_see_15 : decode cX6_see 15 = .ok (.invokevirtual 116, 3) := by decide +kernel
theorem dX6_see_18 : decode cX6_see 18 = .ok (.ifCond .eq 5, 3) := by decide +kernel
theorem dX6_see_21 : decode cX6_see 21 = .ok (.iconst (-1), 1) := by decide +kernel
theorem dX6_see_22 : decode cX6_see 22 = .ok (.ireturn, 1) := by decide +kernel
theorem dX6_see_23 : decode cX6_see 23 = .ok (.iload_n 3, 1) := by decide +kernel
theorem dX6_see_24 : decode cX6_see 24 = .ok (.i2l, 1) := by decide +kernel
theorem dX6_see_25 : decode cX6_see 25 = .ok (.lconst 0, 1) := by decide +kernel
theorem dX6_see_26 : decode cX6_see 26 = .ok (.iconst 1, 1) := by decide +kernel
theorem dX6_see_27 : decode cX6_see 27 = .ok (.aload_n 0, 1) := by decide +kernel
theorem dX6_see_28 : decode cX6_see 28 = .ok (.getfield 22, 3) := by decide +kernel
theorem dX6_see_31 : decode cX6_see 31 = .ok (.bipush 25, 2) := by decide +kernel
theorem dX6_see_33 : decode cX6_see 33 = .ok (.iaload, 1) := by decide +kernel
theorem dX6_see_34 : decode cX6_see 34 = .ok (.ishl, 1) := by decide +kernel
theorem dX6_see_35 : decode cX6_see 35 = .ok (.iconst 1, 1) := by decide +kernel
theorem dX6_see_36 : decode cX6_see 36 = .ok (.isub, 1) := by decide +kernel
theorem dX6_see_37 : decode cX6_see 37 = .ok (.i2l, 1) := by decide +kernel
theorem dX6_see_38 : decode cX6_see 38 = .ok (.invokestatic 60, 3) := by decide +kernel
theorem dX6_see_41 : decode cX6_see 41 = .ok (.ifCond .eq 11, 3) := by decide +kernel
theorem dX6_see_44 : decode cX6_see 44 = .ok (.iload_n 3, 1) := by decide +kernel
theorem dX6_see_45 : decode cX6_see 45 = .ok (.iload_n 2, 1) := by decide +kernel
theorem dX6_see_46 : decode cX6_see 46 = .ok (.invokestatic 97, 3) := by decide +kernel
theorem dX6_see_49 : decode cX6_see 49 = .ok (.ifCond .ne 6, 3) := by decide +kernel
theorem dX6_see_52 : decode cX6_see 52 = .ok (.bipush (-2), 2) := by decide +kernel
theorem dX6_see_54 : decode cX6_see 54 = .ok (.ireturn, 1) := by decide +kernel
theorem dX6_see_55 : decode cX6_see 55 = .ok (.aload_n 0, 1) := by decide +kernel
theorem dX6_see_56 : decode cX6_see 56 = .ok (.getfield 113, 3) := by decide +kernel
theorem dX6_see_59 : decode cX6_see 59 = .ok (.bipush 6, 2) := by decide +kernel
theorem dX6_see_61 : decode cX6_see 61 = .ok (.if_icmp .ne 6, 3) := by decide +kernel
theorem dX6_see_64 : decode cX6_see 64 = .ok (.bipush (-4), 2) := by decide +kernel
theorem dX6_see_66 : decode cX6_see 66 = .ok (.ireturn, 1) := by decide +kernel
theorem dX6_see_67 : decode cX6_see 67 = .ok (.aload_n 0, 1) := by decide +kernel
theorem dX6_see_68 : decode cX6_see 68 = .ok (.getfield 38, 3) := by decide +kernel
theorem dX6_see_71 : decode cX6_see 71 = .ok (.aload_n 0, 1) := by decide +kernel
theorem dX6_see_72 : decode cX6_see 72 = .ok (.getfield 113, 3) := by decide +kernel
theorem dX6_see_75 : decode cX6_see 75 = .ok (.iload_n 1, 1) := by decide +kernel
theorem dX6_see_76 : decode cX6_see 76 = .ok (.iastore, 1) := by decide +kernel
theorem dX6_see_77 : decode cX6_see 77 = .ok (.aload_n 0, 1) := by decide +kernel
theorem dX6_see_78 : decode cX6_see 78 = .ok (.getfield 41, 3) := by decide +kernel
theorem dX6_see_81 : decode cX6_see 81 = .ok (.aload_n 0, 1) := by decide +kernel
theorem dX6_see_82 : decode cX6_see 82 = .ok (.getfield 113, 3) := by decide +kernel
theorem dX6_see_85 : decode cX6_see 85 = .ok (.iload_n 2, 1) := by decide +kernel
theorem dX6_see_86 : decode cX6_see 86 = .ok (.iastore, 1) := by decide +kernel
theorem dX6_see_87 : decode cX6_see 87 = .ok (.aload_n 0, 1) := by decide +kernel
theorem dX6_see_88 : decode cX6_see 88 = .ok (.getfield 44, 3) := by decide +kernel
theorem dX6_see_91 : decode cX6_see 91 = .ok (.aload_n 0, 1) := by decide +kernel
theorem dX6_see_92 : decode cX6_see 92 = .ok (.getfield 113, 3) := by decide +kernel
theorem dX6_see_95 : decode cX6_see 95 = .ok (.iload_n 3, 1) := by decide +kernel
theorem dX6_see_96 : decode cX6_see 96 = .ok (.iastore, 1) := by decide +kernel
theorem dX6_see_97 : decode cX6_see 97 = .ok (.aload_n 0, 1) := by decide +kernel
theorem dX6_see_98 : decode cX6_see 98 = .ok (.dup, 1) := by decide +kernel
theorem dX6_see_99 : decode cX6_see 99 = .ok (.getfield 113, 3) := by decide +kernel
theorem dX6_see_102 : decode cX6_see 102 = .ok (.iconst 1, 1) := by decide +kernel
theorem dX6_see_103 : decode cX6_see 103 = .ok (.iadd, 1) := by decide +kernel
theorem dX6_see_104 : decode cX6_see 104 = .ok (.putfield 113, 3) := by decide +kernel
theorem dX6_see_107 : decode cX6_see 107 = .ok (.aload_n 0, 1) := by decide +kernel
theorem dX6_see_108 : decode cX6_see 108 = .ok (.getfield 113, 3) := by decide +kernel
theorem dX6_see_111 : decode cX6_see 111 = .ok (.ireturn, 1) := by decide +kernel
theorem dX6_unsee_0 : decode cX6_unsee 0 = .ok (.aload_n 0, 1) := by decide +kernel
theorem dX6_unsee_1 : decode cX6_unsee 1 = .ok (.iconst 0, 1) := by decide +kernel
theorem dX6_unsee_2 : decode cX6_unsee 2 = .ok (.putfield 53, 3) := by decide +kernel
theorem dX6_unsee_5 : decode cX6_unsee 5 = .ok (.aload_n 0, 1) := by decide +kernel
theorem dX6_unsee_6 : decode cX6_unsee 6 = .ok (.getfield 113, 3) := by decide +kernel
theorem dX6_unsee_9 : decode cX6_unsee 9 = .ok (.istore_n 1, 1) := by decide +kernel
theorem dX6_unsee_10 : decode cX6_unsee 10 = .ok (.aload_n 0, 1) := by decide +kernel
theorem dX6_unsee_11 : decode cX6_unsee 11 = .ok (.iconst 0, 1) := by decide +kernel
theorem dX6_unsee_12 : decode cX6_unsee 12 = .ok (.putfield 113, 3) := by decide +kernel
theorem dX6_unsee_15 : decode cX6_unsee 15 = .ok (.iload_n 1, 1) := by decide +kernel
theorem dX6_unsee_16 : decode cX6_unsee 16 = .ok (.ireturn, 1) := by decide +kernel
set_option maxRecDepth 20000 in
theorem ggX6_wrongBy_X6_noHouse : GoodIn wsX6_wrongBy wsX6_noHouse := goodIn_r _ [10, 11, 12, 13, 9, 14, 27, 28, 29, 30, 31, 32, 33, 34, 35, 36, 37, 38, 39, 40, 41, 42, 43, 44, 45, 46, 47, 48, 49, 50, 51, 52, 53, 54, 55, 56, 57, 58] (by decide +kernel) (by decide +kernel)
set_option maxRecDepth 20000 in
theorem gX6_wrongBy_X6_noHouse : GoodIn wsX6_wrongBy (wsV RX6 120 RX6 yX6_noHouse wsX6_noHouse) := goodIn_app (goodIn_of _ (by decide +kernel)) ggX6_wrongBy_X6_noHouse
set_option maxRecDepth 20000 in
theorem ggX6_wrongBy_X6_heirsOf : GoodIn wsX6_wrongBy wsX6_heirsOf := goodIn_r _ [17, 18, 19, 9, 20, 21, 22, 23, 24, 25, 26] (by decide +kernel) (by decide +kernel)
set_option maxRecDepth 20000 in
theorem gX6_wrongBy_X6_heirsOf : GoodIn wsX6_wrongBy (va_wsS RX6 109 yX6_heirsOf wsX6_heirsOf) := goodIn_app (goodIn_of _ (by decide +kernel)) ggX6_wrongBy_X6_heirsOf
set_option maxRecDepth 20000 in
theorem ggX6_wrongBy_X6_has : GoodIn wsX6_wrongBy wsX6_has := goodIn_r _ [20] (by decide +kernel) (by decide +kernel)
set_option maxRecDepth 20000 in
theorem gX6_wrongBy_X6_has : GoodIn wsX6_wrongBy (va_wsS RX6 97 yX6_has wsX6_has) := goodIn_app (goodIn_of _ (by decide +kernel)) ggX6_wrongBy_X6_has
theorem dX6_wrongBy_0 : decode cX6_wrongBy 0 = .ok (.iconst 0, 1) := by decide +kernel
theorem dX6_wrongBy_1 : decode cX6_wrongBy 1 = .ok (.istore_n 2, 1) := by decide +kernel
theorem dX6_wrongBy_2 : decode cX6_wrongBy 2 = .ok (.iconst 0, 1) := by decide +kernel
theorem dX6_wrongBy_3 : decode cX6_wrongBy 3 = .ok (.istore_n 3, 1) := by decide +kernel
theorem dX6_wrongBy_4 : decode cX6_wrongBy 4 = .ok (.iload_n 3, 1) := by decide +kernel
theorem dX6_wrongBy_5 : decode cX6_wrongBy 5 = .ok (.aload_n 0, 1) := by decide +kernel
theorem dX6_wrongBy_6 : decode cX6_wrongBy 6 = .ok (.getfield 113, 3) := by decide +kernel
theorem dX6_wrongBy_9 : decode cX6_wrongBy 9 = .ok (.if_icmp .ge 114, 3) := by decide +kernel
theorem dX6_wrongBy_12 : decode cX6_wrongBy 12 = .ok (.aload_n 0, 1) := by decide +kernel
theorem dX6_wrongBy_13 : decode cX6_wrongBy 13 = .ok (.aload_n 0, 1) := by decide +kernel
theorem dX6_wrongBy_14 : decode cX6_wrongBy 14 = .ok (.getfield 38, 3) := by decide +kernel
theorem dX6_wrongBy_17 : decode cX6_wrongBy 17 = .ok (.iload_n 3, 1) := by decide +kernel
theorem dX6_wrongBy_18 : decode cX6_wrongBy 18 = .ok (.iaload, 1) := by decide +kernel
theorem dX6_wrongBy_19 : decode cX6_wrongBy 19 = .ok (.invokevirtual 120, 3) := by decide +kernel
theorem dX6_wrongBy_22 : decode cX6_wrongBy 22 = .ok (.ifCond .ne 25, 3) := by decide +kernel
theorem dX6_wrongBy_25 : decode cX6_wrongBy 25 = .ok (.aload_n 0, 1) := by decide +kernel
theorem dX6_wrongBy_26 : decode cX6_wrongBy 26 = .ok (.getfield 44, 3) := by decide +kernel
theorem dX6_wrongBy_29 : decode cX6_wrongBy 29 = .ok (.iload_n 3, 1) := by decide +kernel
theorem dX6_wrongBy_30 : decode cX6_wrongBy 30 = .ok (.iaload, 1) := by decide +kernel
theorem dX6_wrongBy_31 : decode cX6_wrongBy 31 = .ok (.iconst 1, 1) := by decide +kernel
theorem dX6_wrongBy_32 : decode cX6_wrongBy 32 = .ok (.aload_n 0, 1) := by decide +kernel
theorem dX6_wrongBy_33 : decode cX6_wrongBy 33 = .ok (.getfield 22, 3) := by decide +kernel
theorem dX6_wrongBy_36 : decode cX6_wrongBy 36 = .ok (.bipush 25, 2) := by decide +kernel
theorem dX6_wrongBy_38 : decode cX6_wrongBy 38 = .ok (.iaload, 1) := by decide +kernel
theorem dX6_wrongBy_39 : decode cX6_wrongBy 39 = .ok (.ishl, 1) := by decide +kernel
theorem dX6_wrongBy_40 : decode cX6_wrongBy 40 = .ok (.if_icmp .ge 7, 3) := by decide +kernel
theorem dX6_wrongBy_43 : decode cX6_wrongBy 43 = .ok (.iconst 1, 1) := by decide +kernel
theorem dX6_wrongBy_44 : decode cX6_wrongBy 44 = .ok (.goto 4, 3) := by decide +kernel
theorem dX6_wrongBy_47 : decode cX6_wrongBy 47 = .ok (.iconst 0, 1) := by decide +kernel
theorem dX6_wrongBy_48 : decode cX6_wrongBy 48 = .ok (.istore 4, 2) := by decide +kernel
theorem dX6_wrongBy_50 : decode cX6_wrongBy 50 = .ok (.iload 4, 2) := by decide +kernel
theorem dX6_wrongBy_52 : decode cX6_wrongBy 52 = .ok (.ifCond .eq 35, 3) := by decide +kernel
theorem dX6_wrongBy_55 : decode cX6_wrongBy 55 = .ok (.aload_n 0, 1) := by decide +kernel
theorem dX6_wrongBy_56 : decode cX6_wrongBy 56 = .ok (.getfield 22, 3) := by decide +kernel
theorem dX6_wrongBy_59 : decode cX6_wrongBy 59 = .ok (.aload_n 0, 1) := by decide +kernel
theorem dX6_wrongBy_60 : decode cX6_wrongBy 60 = .ok (.getfield 38, 3) := by decide +kernel
theorem dX6_wrongBy_63 : decode cX6_wrongBy 63 = .ok (.iload_n 3, 1) := by decide +kernel
theorem dX6_wrongBy_64 : decode cX6_wrongBy 64 = .ok (.iaload, 1) := by decide +kernel
theorem dX6_wrongBy_65 : decode cX6_wrongBy 65 = .ok (.iload_n 1, 1) := by decide +kernel
theorem dX6_wrongBy_66 : decode cX6_wrongBy 66 = .ok (.aload_n 0, 1) := by decide +kernel
theorem dX6_wrongBy_67 : decode cX6_wrongBy 67 = .ok (.getfield 38, 3) := by decide +kernel
theorem dX6_wrongBy_70 : decode cX6_wrongBy 70 = .ok (.iload_n 3, 1) := by decide +kernel
theorem dX6_wrongBy_71 : decode cX6_wrongBy 71 = .ok (.iaload, 1) := by decide +kernel
theorem dX6_wrongBy_72 : decode cX6_wrongBy 72 = .ok (.ishr, 1) := by decide +kernel
theorem dX6_wrongBy_73 : decode cX6_wrongBy 73 = .ok (.iconst 1, 1) := by decide +kernel
theorem dX6_wrongBy_74 : decode cX6_wrongBy 74 = .ok (.iand, 1) := by decide +kernel
theorem dX6_wrongBy_75 : decode cX6_wrongBy 75 = .ok (.aload_n 0, 1) := by decide +kernel
theorem dX6_wrongBy_76 : decode cX6_wrongBy 76 = .ok (.getfield 44, 3) := by decide +kernel
theorem dX6_wrongBy_79 : decode cX6_wrongBy 79 = .ok (.iload_n 3, 1) := by decide +kernel
theorem dX6_wrongBy_80 : decode cX6_wrongBy 80 = .ok (.iaload, 1) := by decide +kernel
theorem dX6_wrongBy_81 : decode cX6_wrongBy 81 = .ok (.invokestatic 109, 3) := by decide +kernel
theorem dX6_wrongBy_84 : decode cX6_wrongBy 84 = .ok (.goto 4, 3) := by decide +kernel
theorem dX6_wrongBy_87 : decode cX6_wrongBy 87 = .ok (.iconst 0, 1) := by decide +kernel
theorem dX6_wrongBy_88 : decode cX6_wrongBy 88 = .ok (.istore 5, 2) := by decide +kernel
theorem dX6_wrongBy_90 : decode cX6_wrongBy 90 = .ok (.iload_n 2, 1) := by decide +kernel
theorem dX6_wrongBy_91 : decode cX6_wrongBy 91 = .ok (.iload 4, 2) := by decide +kernel
theorem dX6_wrongBy_93 : decode cX6_wrongBy 93 = .ok (.ifCond .eq 21, 3) := by decide +kernel
theorem dX6_wrongBy_96 : decode cX6_wrongBy 96 = .ok (.iload 5, 2) := by decide +kernel
theorem dX6_wrongBy_98 : decode cX6_wrongBy 98 = .ok (.aload_n 0, 1) := by decide +kernel
theorem dX6_wrongBy_99 : decode cX6_wrongBy 99 = .ok (.getfield 41, 3) := by decide +kernel
theorem dX6_wrongBy_102 : decode cX6_wrongBy 102 = .ok (.iload_n 3, 1) := by decide +kernel
theorem dX6_wrongBy_103 : decode cX6_wrongBy 103 = .ok (.iaload, 1) := by decide +kernel
theorem dX6_wrongBy_104 : decode cX6_wrongBy 104 = .ok (.invokestatic 97, 3) := by decide +kernel
theorem dX6_wrongBy_107 : decode cX6_wrongBy 107 = .ok (.ifCond .ne 7, 3) := by decide +kernel
theorem dX6_wrongBy_110 : decode cX6_wrongBy 110 = .ok (.iconst 1, 1) := by decide +kernel
theorem dX6_wrongBy_111 : decode cX6_wrongBy 111 = .ok (.goto 4, 3) := by decide +kernel
theorem dX6_wrongBy_114 : decode cX6_wrongBy 114 = .ok (.iconst 0, 1) := by decide +kernel
theorem dX6_wrongBy_115 : decode cX6_wrongBy 115 = .ok (.iadd, 1) := by decide +kernel
theorem dX6_wrongBy_116 : decode cX6_wrongBy 116 = .ok (.istore_n 2, 1) := by decide +kernel
theorem dX6_wrongBy_117 : decode cX6_wrongBy 117 = .ok (.iinc 3 1, 3) := by decide +kernel
theorem dX6_wrongBy_120 : decode cX6_wrongBy 120 = .ok (.goto (-116), 3) := by decide +kernel
theorem dX6_wrongBy_123 : decode cX6_wrongBy 123 = .ok (.iload_n 2, 1) := by decide +kernel
theorem dX6_wrongBy_124 : decode cX6_wrongBy 124 = .ok (.ireturn, 1) := by decide +kernel
set_option maxRecDepth 20000 in
theorem ggX6_findSides_X6_wrongBy : GoodIn wsX6_findSides wsX6_wrongBy := goodIn_r _ [11, 12, 13, 14, 15, 16, 17, 18, 19, 10, 20, 2, 21, 22, 23, 24, 25, 26, 27, 28, 29, 30, 31, 32, 33, 34, 35, 36, 37, 38, 39, 40, 41, 42, 43, 44, 45, 46, 47, 48, 49, 50, 51, 52, 53, 54, 55, 56, 57, 58, 59, 60, 61, 62, 63, 64, 65, 66, 67] (by decide +kernel) (by decide +kernel)
set_option maxRecDepth 20000 in
theorem gX6_findSides_X6_wrongBy : GoodIn wsX6_findSides (wsV RX6 195 RX6 yX6_wrongBy wsX6_wrongBy) := goodIn_app (goodIn_of _ (by decide +kernel)) ggX6_findSides_X6_wrongBy
theorem dX6_findSides_0 : decode cX6_findSides 0 = .ok (.aload_n 0, 1) := by decide +kernel
theorem dX6_findSides_1 : decode cX6_findSides 1 = .ok (.iconst 0, 1) := by decide +kernel
theorem dX6_findSides_2 : decode cX6_findSides 2 = .ok (.putfield 180, 3) := by decide +kernel
theorem dX6_findSides_5 : decode cX6_findSides 5 = .ok (.aload_n 0, 1) := by decide +kernel
theorem dX6_findSides_6 : decode cX6_findSides 6 = .ok (.iconst 1, 1) := by decide +kernel
theorem dX6_findSides_7 : decode cX6_findSides 7 = .ok (.aload_n 0, 1) := by decide +kernel
theorem dX6_findSides_8 : decode cX6_findSides 8 = .ok (.getfield 57, 3) := by decide +kernel
theorem dX6_findSides_11 : decode cX6_findSides 11 = .ok (.ishl, 1) := by decide +kernel
theorem dX6_findSides_12 : decode cX6_findSides 12 = .ok (.iconst 1, 1) := by decide +kernel
theorem dX6_findSides_13 : decode cX6_findSides 13 = .ok (.isub, 1) := by decide +kernel
theorem dX6_findSides_14 : decode cX6_findSides 14 = .ok (.putfield 183, 3) := by decide +kernel
theorem dX6_findSides_17 : decode cX6_findSides 17 = .ok (.aload_n 0, 1) := by decide +kernel
theorem dX6_findSides_18 : decode cX6_findSides 18 = .ok (.iconst 1, 1) := by decide +kernel
theorem dX6_findSides_19 : decode cX6_findSides 19 = .ok (.aload_n 0, 1) := by decide +kernel
theorem dX6_findSides_20 : decode cX6_findSides 20 = .ok (.getfield 57, 3) := by decide +kernel
theorem dX6_findSides_23 : decode cX6_findSides 23 = .ok (.ishl, 1) := by decide +kernel
theorem dX6_findSides_24 : decode cX6_findSides 24 = .ok (.iconst 1, 1) := by decide +kernel
theorem dX6_findSides_25 : decode cX6_findSides 25 = .ok (.isub, 1) := by decide +kernel
theorem dX6_findSides_26 : decode cX6_findSides 26 = .ok (.putfield 186, 3) := by decide +kernel
theorem dX6_findSides_29 : decode cX6_findSides 29 = .ok (.aload_n 0, 1) := by decide +kernel
theorem dX6_findSides_30 : decode cX6_findSides 30 = .ok (.iconst 0, 1) := by decide +kernel
theorem dX6_findSides_31 : decode cX6_findSides 31 = .ok (.putfield 189, 3) := by decide +kernel
theorem dX6_findSides_34 : decode cX6_findSides 34 = .ok (.aload_n 0, 1) := by decide +kernel
theorem dX6_findSides_35 : decode cX6_findSides 35 = .ok (.bipush (-9), 2) := by decide +kernel
theorem dX6_findSides_37 : decode cX6_findSides 37 = .ok (.putfield 192, 3) := by decide +kernel
theorem dX6_findSides_40 : decode cX6_findSides 40 = .ok (.iconst 0, 1) := by decide +kernel
theorem dX6_findSides_41 : decode cX6_findSides 41 = .ok (.istore_n 1, 1) := by decide +kernel
theorem dX6_findSides_42 : decode cX6_findSides 42 = .ok (.iload_n 1, 1) := by decide +kernel
theorem dX6_findSides_43 : decode cX6_findSides 43 = .ok (.iconst 1, 1) := by decide +kernel
theorem dX6_findSides_44 : decode cX6_findSides 44 = .ok (.aload_n 0, 1) := by decide +kernel
theorem dX6_findSides_45 : decode cX6_findSides 45 = .ok (.getfield 57, 3) := by decide +kernel
theorem dX6_findSides_48 : decode cX6_findSides 48 = .ok (.ishl, 1) := by decide +kernel
theorem dX6_findSides_49 : decode cX6_findSides 49 = .ok (.if_icmp .ge 109, 3) := by decide +kernel
theorem dX6_findSides_52 : decode cX6_findSides 52 = .ok (.aload_n 0, 1) := by decide +kernel
theorem dX6_findSides_53 : decode cX6_findSides 53 = .ok (.iload_n 1, 1) := by decide +kernel
theorem dX6_findSides_54 : decode cX6_findSides 54 = .ok (.invokevirtual 195, 3) := by decide +kernel
theorem dX6_findSides_57 : decode cX6_findSides 57 = .ok (.istore_n 2, 1) := by decide +kernel
theorem dX6_findSides_58 : decode cX6_findSides 58 = .ok (.iload_n 2, 1) := by decide +kernel
theorem dX6_findSides_59 : decode cX6_findSides 59 = .ok (.ifCond .ne 35, 3) := by decide +kernel
theorem dX6_findSides_62 : decode cX6_findSides 62 = .ok (.aload_n 0, 1) := by decide +kernel
theorem dX6_findSides_63 : decode cX6_findSides 63 = .ok (.dup, 1) := by decide +kernel
theorem dX6_findSides_64 : decode cX6_findSides 64 = .ok (.getfield 180, 3) := by decide +kernel
theorem dX6_findSides_67 : decode cX6_findSides 67 = .ok (.iconst 1, 1) := by decide +kernel
theorem dX6_findSides_68 : decode cX6_findSides 68 = .ok (.iadd, 1) := by decide +kernel
theorem dX6_findSides_69 : decode cX6_findSides 69 = .ok (.putfield 180, 3) := by decide +kernel
theorem dX6_findSides_72 : decode cX6_findSides 72 = .ok (.aload_n 0, 1) := by decide +kernel
theorem dX6_findSides_73 : decode cX6_findSides 73 = .ok (.dup, 1) := by decide +kernel
theorem dX6_findSides_74 : decode cX6_findSides 74 = .ok (.getfield 183, 3) := by decide +kernel
theorem dX6_findSides_77 : decode cX6_findSides 77 = .ok (.iload_n 1, 1) := by decide +kernel
theorem dX6_findSides_78 : decode cX6_findSides 78 = .ok (.iand, 1) := by decide +kernel
theorem dX6_findSides_79 : decode cX6_findSides 79 = .ok (.putfield 183, 3) := by decide +kernel
theorem dX6_findSides_82 : decode cX6_findSides 82 = .ok (.aload_n 0, 1) := by decide +kernel
theorem dX6_findSides_83 : decode cX6_findSides 83 = .ok (.dup, 1) := by decide +kernel
theorem dX6_findSides_84 : decode cX6_findSides 84 = .ok (.getfield 186, 3) := by decide +kernel
theorem dX6_findSides_87 : decode cX6_findSides 87 = .ok (.iload_n 1, 1) := by decide +kernel
theorem dX6_findSides_88 : decode cX6_findSides 88 = .ok (.iconst (-1), 1) := by decide +kernel
theorem dX6_findSides_89 : decode cX6_findSides 89 = .ok (.ixor, 1) := by decide +kernel
theorem dX6_findSides_90 : decode cX6_findSides 90 = .ok (.iand, 1) := by decide +kernel
theorem dX6_findSides_91 : decode cX6_findSides 91 = .ok (.putfield 186, 3) := by decide +kernel
theorem dX6_findSides_94 : decode cX6_findSides 94 = .ok (.aload_n 0, 1) := by decide +kernel
theorem dX6_findSides_95 : decode cX6_findSides 95 = .ok (.aload_n 0, 1) := by decide +kernel
theorem dX6_findSides_96 : decode cX6_findSides 96 = .ok (.getfield 192, 3) := by decide +kernel
theorem dX6_findSides_99 : decode cX6_findSides 99 = .ok (.bipush (-9), 2) := by decide +kernel
theorem dX6_findSides_101 : decode cX6_findSides 101 = .ok (.if_icmp .eq 11, 3) := by decide +kernel
theorem dX6_findSides_104 : decode cX6_findSides 104 = .ok (.iload_n 2, 1) := by decide +kernel
theorem dX6_findSides_105 : decode cX6_findSides 105 = .ok (.aload_n 0, 1) := by decide +kernel
theorem dX6_findSides_106 : decode cX6_findSides 106 = .ok (.getfield 192, 3) := by decide +kernel
theorem dX6_findSides_109 : decode cX6_findSides 109 = .ok (.if_icmp .ge 7, 3) := by decide +kernel
theorem dX6_findSides_112 : decode cX6_findSides 112 = .ok (.iload_n 1, 1) := by decide +kernel
theorem dX6_findSides_113 : decode cX6_findSides 113 = .ok (.goto 7, 3) := by decide +kernel
theorem dX6_findSides_116 : decode cX6_findSides 116 = .ok (.aload_n 0, 1) := by decide +kernel
theorem dX6_findSides_117 : decode cX6_findSides 117 = .ok (.getfield 189, 3) := by decide +kernel
theorem dX6_findSides_120 : decode cX6_findSides 120 = .ok (.putfield 189, 3) := by decide +kernel
theorem dX6_findSides_123 : decode cX6_findSides 123 = .ok (.aload_n 0, 1) := by decide +kernel
theorem dX6_findSides_124 : decode cX6_findSides 124 = .ok (.aload_n 0, 1) := by decide +kernel
theorem dX6_findSides_125 : decode cX6_findSides 125 = .ok (.getfield 192, 3) := by decide +kernel
theorem dX6_findSides_128 : decode cX6_findSides 128 = .ok (.bipush (-9), 2) := by decide +kernel
theorem dX6_findSides_130 : decode cX6_findSides 130 = .ok (.if_icmp .eq 11, 3) := by decide +kernel
theorem dX6_findSides_133 : decode cX6_findSides 133 = .ok (.iload_n 2, 1) := by decide +kernel
theorem dX6_findSides_134 : decode cX6_findSides 134 = .ok (.aload_n 0, 1) := by decide +kernel
theorem dX6_findSides_135 : decode cX6_findSides 135 = .ok (.getfield 192, 3) := by decide +kernel
theorem dX6_findSides_138 : decode cX6_findSides 138 = .ok (.if_icmp .ge 7, 3) := by decide +kernel
theorem dX6_findSides_141 : decode cX6_findSides 141 = .ok (.iload_n 2, 1) := by decide +kernel
theorem dX6_findSides_142 : decode cX6_findSides 142 = .ok (.goto 7, 3) := by decide +kernel
theorem dX6_findSides_145 : decode cX6_findSides 145 = .ok (.aload_n 0, 1) := by decide +kernel
theorem dX6_findSides_146 : decode cX6_findSides 146 = .ok (.getfield 192, 3) := by decide +kernel
theorem dX6_findSides_149 : decode cX6_findSides 149 = .ok (.putfield 192, 3) := by decide +kernel
theorem dX6_findSides_152 : decode cX6_findSides 152 = .ok (.iinc 1 1, 3) := by decide +kernel
theorem dX6_findSides_155 : decode cX6_findSides 155 = .ok (.goto (-113), 3) := by decide +kernel
theorem dX6_findSides_158 : decode cX6_findSides 158 = .ok (.return_, 1) := by decide +kernel
set_option maxRecDepth 20000 in
theorem ggX6_sides_X6_in : GoodIn wsX6_sides wsX6_in := goodIn_r _ [11] (by decide +kernel) (by decide +kernel)
set_option maxRecDepth 20000 in
theorem gX6_sides_X6_in : GoodIn wsX6_sides (va_wsS RX6 60 yX6_in wsX6_in) := goodIn_app (goodIn_of _ (by decide +kernel)) ggX6_sides_X6_in
set_option maxRecDepth 20000 in
theorem ggX6_sides_X6_findSides : GoodIn wsX6_sides wsX6_findSides := goodIn_r _ [15, 3, 16, 6, 7, 4, 5, 17, 18, 19, 10, 20, 21, 22, 23, 24, 25, 26, 27, 28, 29, 8, 9, 11, 30, 31, 32, 33, 34, 35, 36, 37, 38, 39, 40, 41, 42, 43, 44, 45, 46, 47, 48, 49, 50, 51, 52, 53, 54, 55, 56, 57, 58, 59, 60, 61, 62, 63, 64, 65, 66, 67, 68, 69, 70, 71, 72, 73] (by decide +kernel) (by decide +kernel)
set_option maxRecDepth 20000 in
theorem gX6_sides_X6_findSides : GoodIn wsX6_sides (wsV RX6 198 RX6 yX6_findSides wsX6_findSides) := goodIn_app (goodIn_of _ (by decide +kernel)) ggX6_sides_X6_findSides
theorem dX6_sides_0 : decode cX6_sides 0 = .ok (.aload_n 0, 1) := by decide +kernel
theorem dX6_sides_1 : decode cX6_sides 1 = .ok (.iconst 0, 1) := by decide +kernel
theorem dX6_sides_2 : decode cX6_sides 2 = .ok (.putfield 53, 3) := by decide +kernel
theorem dX6_sides_5 : decode cX6_sides 5 = .ok (.iload_n 1, 1) := by decide +kernel
theorem dX6_sides_6 : decode cX6_sides 6 = .ok (.i2l, 1) := by decide +kernel
theorem dX6_sides_7 : decode cX6_sides 7 = .ok (.lconst 0, 1) := by decide +kernel
theorem dX6_sides_8 : decode cX6_sides 8 = .ok (.ldc2_w 162, 3) := by decide +kernel
theorem dX6_sides_11 : decode cX6_sides 11 = .ok (.invokestatic 60, 3) := by decide +kernel
theorem dX6_sides_14 : decode cX6_sides 14 = .ok (.ifCond .ne 6, 3) := by decide +kernel
theorem dX6_sides_17 : decode cX6_sides 17 = .ok (.bipush (-2), 2) := by decide +kernel
theorem dX6_sides_19 : decode cX6_sides 19 = .ok (.ireturn, 1) := by decide +kernel
theorem dX6_sides_20 : decode cX6_sides 20 = .ok (.aload_n 0, 1) := by decide +kernel
theorem dX6_sides_21 : decode cX6_sides 21 = .ok (.invokevirtual 198, 3) := by decide +kernel
theorem dX6_sides_24 : decode cX6_sides 24 = .ok (.iload_n 1, 1) := by decide +kernel
theorem dX6_sides_25 : decode cX6_sides 25 = .ok (.ifCond .ne 8, 3) := by decide +kernel
theorem dX6_sides_28 : decode cX6_sides 28 = .ok (.aload_n 0, 1) := by decide +kernel
theorem dX6_sides_29 : decode cX6_sides 29 = .ok (.getfield 180, 3) := by decide +kernel
theorem dX6_sides_32 : decode cX6_sides 32 = .ok (.ireturn, 1) := by decide +kernel
theorem dX6_sides_33 : decode cX6_sides 33 = .ok (.iload_n 1, 1) := by decide +kernel
theorem dX6_sides_34 : decode cX6_sides 34 = .ok (.iconst 2, 1) := by decide +kernel
theorem dX6_sides_35 : decode cX6_sides 35 = .ok (.if_icmp .le 20, 3) := by decide +kernel
theorem dX6_sides_38 : decode cX6_sides 38 = .ok (.iload_n 1, 1) := by decide +kernel
theorem dX6_sides_39 : decode cX6_sides 39 = .ok (.iconst 3, 1) := by decide +kernel
theorem dX6_sides_40 : decode cX6_sides 40 = .ok (.if_icmp .ne 10, 3) := by decide +kernel
theorem dX6_sides_43 : decode cX6_sides 43 = .ok (.aload_n 0, 1) := by decide +kernel
theorem dX6_sides_44 : decode cX6_sides 44 = .ok (.getfield 189, 3) := by decide +kernel
theorem dX6_sides_47 : decode cX6_sides 47 = .ok (.goto 7, 3) := by decide +kernel
theorem dX6_sides_50 : decode cX6_sides 50 = .ok (.aload_n 0, 1) := by decide +kernel
theorem dX6_sides_51 : decode cX6_sides 51 = .ok (.getfield 192, 3) := by decide +kernel
theorem dX6_sides_54 : decode cX6_sides 54 = .ok (.ireturn, 1) := by decide +kernel
theorem dX6_sides_55 : decode cX6_sides 55 = .ok (.aload_n 0, 1) := by decide +kernel
theorem dX6_sides_56 : decode cX6_sides 56 = .ok (.getfield 180, 3) := by decide +kernel
theorem dX6_sides_59 : decode cX6_sides 59 = .ok (.ifCond .ne 8, 3) := by decide +kernel
theorem dX6_sides_62 : decode cX6_sides 62 = .ok (.bipush (-9), 2) := by decide +kernel
theorem dX6_sides_64 : decode cX6_sides 64 = .ok (.goto 19, 3) := by decide +kernel
theorem dX6_sides_67 : decode cX6_sides 67 = .ok (.iload_n 1, 1) := by decide +kernel
theorem dX6_sides_68 : decode cX6_sides 68 = .ok (.iconst 1, 1) := by decide +kernel
theorem dX6_sides_69 : decode cX6_sides 69 = .ok (.if_icmp .ne 10, 3) := by decide +kernel
theorem dX6_sides_72 : decode cX6_sides 72 = .ok (.aload_n 0, 1) := by decide +kernel
theorem dX6_sides_73 : decode cX6_sides 73 = .ok (.getfield 183, 3) := by decide +kernel
theorem dX6_sides_76 : decode cX6_sides 76 = .ok (.goto 7, 3) := by decide +kernel
theorem dX6_sides_79 : decode cX6_sides 79 = .ok (.aload_n 0, 1) := by decide +kernel
theorem dX6_sides_80 : decode cX6_sides 80 = .ok (.getfield 186, 3) := by decide +kernel
theorem dX6_sides_83 : decode cX6_sides 83 = .ok (.ireturn, 1) := by decide +kernel
set_option maxRecDepth 20000 in
theorem ggX6_gainOf_X6_heirsOf : GoodIn wsX6_gainOf wsX6_heirsOf := goodIn_r _ [6, 7, 8, 5, 9, 10, 11, 12, 13, 14, 15] (by decide +kernel) (by decide +kernel)
set_option maxRecDepth 20000 in
theorem gX6_gainOf_X6_heirsOf : GoodIn wsX6_gainOf (va_wsS RX6 109 yX6_heirsOf wsX6_heirsOf) := goodIn_app (goodIn_of _ (by decide +kernel)) ggX6_gainOf_X6_heirsOf
set_option maxRecDepth 20000 in
theorem ggX6_gainOf_X6_has : GoodIn wsX6_gainOf wsX6_has := goodIn_r _ [9] (by decide +kernel) (by decide +kernel)
set_option maxRecDepth 20000 in
theorem gX6_gainOf_X6_has : GoodIn wsX6_gainOf (va_wsS RX6 97 yX6_has wsX6_has) := goodIn_app (goodIn_of _ (by decide +kernel)) ggX6_gainOf_X6_has
set_option maxRecDepth 20000 in
theorem ggX6_gainOf_X6_many : GoodIn wsX6_gainOf wsX6_many := goodIn_r _ [18] (by decide +kernel) (by decide +kernel)
set_option maxRecDepth 20000 in
theorem gX6_gainOf_X6_many : GoodIn wsX6_gainOf (va_wsS RX6 134 yX6_many wsX6_many) := goodIn_app (goodIn_of _ (by decide +kernel)) ggX6_gainOf_X6_many
theorem dX6_gainOf_0 : decode cX6_gainOf 0 = .ok (.iload 4, 2) := by decide +kernel
theorem dX6_gainOf_2 : decode cX6_gainOf 2 = .ok (.ifCond .ne 5, 3) := by decide +kernel
theorem dX6_gainOf_5 : decode cX6_gainOf 5 = .ok (.iconst 3, 1) := by decide +kernel
theorem dX6_gainOf_6 : decode cX6_gainOf 6 = .ok (.ireturn, 1) := by decide +kernel
theorem dX6_gainOf_7 : decode cX6_gainOf 7 = .ok (.aload_n 0, 1) := by decide +kernel
theorem dX6_gainOf_8 : decode cX6_gainOf 8 = .ok (.getfield 22, 3) := by decide +kernel
theorem dX6_gainOf_11 : decode cX6_gainOf 11 = .ok (.iload_n 2, 1) := by decide +kernel
theorem dX6_gainOf_12 : decode cX6_gainOf 12 = .ok (.aload_n 0, 1) := by decide +kernel
theorem dX6_gainOf_13 : decode cX6_gainOf 13 = .ok (.getfield 22, 3) := by decide +kernel
theorem dX6_gainOf_16 : decode cX6_gainOf 16 = .ok (.bipush 22, 2) := by decide +kernel
theorem dX6_gainOf_18 : decode cX6_gainOf 18 = .ok (.iaload, 1) := by decide +kernel
theorem dX6_gainOf_19 : decode cX6_gainOf 19 = .ok (.iload_n 2, 1) := by decide +kernel
theorem dX6_gainOf_20 : decode cX6_gainOf 20 = .ok (.ishr, 1) := by decide +kernel
theorem dX6_gainOf_21 : decode cX6_gainOf 21 = .ok (.iconst 1, 1) := by decide +kernel
theorem dX6_gainOf_22 : decode cX6_gainOf 22 = .ok (.iand, 1) := by decide +kernel
theorem dX6_gainOf_23 : decode cX6_gainOf 23 = .ok (.iload_n 3, 1) := by decide +kernel
theorem dX6_gainOf_24 : decode cX6_gainOf 24 = .ok (.invokestatic 109, 3) := by decide +kernel
theorem dX6_gainOf_27 : decode cX6_gainOf 27 = .ok (.istore 5, 2) := by decide +kernel
theorem dX6_gainOf_29 : decode cX6_gainOf 29 = .ok (.iload 5, 2) := by decide +kernel
theorem dX6_gainOf_31 : decode cX6_gainOf 31 = .ok (.iload_n 1, 1) := by decide +kernel
theorem dX6_gainOf_32 : decode cX6_gainOf 32 = .ok (.invokestatic 97, 3) := by decide +kernel
theorem dX6_gainOf_35 : decode cX6_gainOf 35 = .ok (.ifCond .eq 18, 3) := by decide +kernel
theorem dX6_gainOf_38 : decode cX6_gainOf 38 = .ok (.aload_n 0, 1) := by decide +kernel
theorem dX6_gainOf_39 : decode cX6_gainOf 39 = .ok (.getfield 13, 3) := by decide +kernel
theorem dX6_gainOf_42 : decode cX6_gainOf 42 = .ok (.iload_n 2, 1) := by decide +kernel
theorem dX6_gainOf_43 : decode cX6_gainOf 43 = .ok (.iaload, 1) := by decide +kernel
theorem dX6_gainOf_44 : decode cX6_gainOf 44 = .ok (.iload 5, 2) := by decide +kernel
theorem dX6_gainOf_46 : decode cX6_gainOf 46 = .ok (.invokestatic 134, 3) := by decide +kernel
theorem dX6_gainOf_49 : decode cX6_gainOf 49 = .ok (.idiv, 1) := by decide +kernel
theorem dX6_gainOf_50 : decode cX6_gainOf 50 = .ok (.goto 4, 3) := by decide +kernel
theorem dX6_gainOf_53 : decode cX6_gainOf 53 = .ok (.iconst 0, 1) := by decide +kernel
theorem dX6_gainOf_54 : decode cX6_gainOf 54 = .ok (.ireturn, 1) := by decide +kernel
set_option maxRecDepth 20000 in
theorem ggX6_findRests_X6_gainOf : GoodIn wsX6_findRests wsX6_gainOf := goodIn_r _ [9, 1, 10, 11, 12, 8, 13, 14, 15, 16, 17, 18, 19, 20, 21, 22, 23, 24, 25, 26, 27, 28, 29, 30, 31, 32, 33, 34, 35, 36, 37, 38, 39, 40, 41, 42, 43, 44, 45, 46, 47, 48, 49, 50, 51, 52, 53, 54, 55, 56, 57] (by decide +kernel) (by decide +kernel)
set_option maxRecDepth 20000 in
theorem gX6_findRests_X6_gainOf : GoodIn wsX6_findRests (wsV RX6 201 RX6 yX6_gainOf wsX6_gainOf) := goodIn_app (goodIn_of _ (by decide +kernel)) ggX6_findRests_X6_gainOf
theorem dX6_findRests_0 : decode cX6_findRests 0 = .ok (.aload_n 0, 1) := by decide +kernel
theorem dX6_findRests_1 : decode cX6_findRests 1 = .ok (.getfield 22, 3) := by decide +kernel
theorem dX6_findRests_4 : decode cX6_findRests 4 = .ok (.bipush 7, 2) := by decide +kernel
theorem dX6_findRests_6 : decode cX6_findRests 6 = .ok (.iload_n 1, 1) := by decide +kernel
theorem dX6_findRests_7 : decode cX6_findRests 7 = .ok (.iadd, 1) := by decide +kernel
theorem dX6_findRests_8 : decode cX6_findRests 8 = .ok (.iaload, 1) := by decide +kernel
theorem dX6_findRests_9 : decode cX6_findRests 9 = .ok (.istore_n 3, 1) := by decide +kernel
theorem dX6_findRests_10 : decode cX6_findRests 10 = .ok (.iconst 0, 1) := by decide +kernel
theorem dX6_findRests_11 : decode cX6_findRests 11 = .ok (.istore 4, 2) := by decide +kernel
theorem dX6_findRests_13 : decode cX6_findRests 13 = .ok (.iload 4, 2) := by decide +kernel
theorem dX6_findRests_15 : decode cX6_findRests 15 = .ok (.iconst 4, 1) := by decide +kernel
theorem dX6_findRests_16 : decode cX6_findRests 16 = .ok (.if_icmp .ge 114, 3) := by decide +kernel
theorem dX6_findRests_19 : decode cX6_findRests 19 = .ok (.aload_n 0, 1) := by decide +kernel
theorem dX6_findRests_20 : decode cX6_findRests 20 = .ok (.getfield 22, 3) := by decide +kernel
theorem dX6_findRests_23 : decode cX6_findRests 23 = .ok (.bipush 21, 2) := by decide +kernel
theorem dX6_findRests_25 : decode cX6_findRests 25 = .ok (.iaload, 1) := by decide +kernel
theorem dX6_findRests_26 : decode cX6_findRests 26 = .ok (.iload 4, 2) := by decide +kernel
theorem dX6_findRests_28 : decode cX6_findRests 28 = .ok (.iconst 2, 1) := by decide +kernel
theorem dX6_findRests_29 : decode cX6_findRests 29 = .ok (.idiv, 1) := by decide +kernel
theorem dX6_findRests_30 : decode cX6_findRests 30 = .ok (.ifCond .ne 9, 3) := by decide +kernel
theorem dX6_findRests_33 : decode cX6_findRests 33 = .ok (.iconst 1, 1) := by decide +kernel
theorem dX6_findRests_34 : decode cX6_findRests 34 = .ok (.iload_n 1, 1) := by decide +kernel
theorem dX6_findRests_35 : decode cX6_findRests 35 = .ok (.ishl, 1) := by decide +kernel
theorem dX6_findRests_36 : decode cX6_findRests 36 = .ok (.goto 4, 3) := by decide +kernel
theorem dX6_findRests_39 : decode cX6_findRests 39 = .ok (.iconst 0, 1) := by decide +kernel
theorem dX6_findRests_40 : decode cX6_findRests 40 = .ok (.iconst (-1), 1) := by decide +kernel
theorem dX6_findRests_41 : decode cX6_findRests 41 = .ok (.ixor, 1) := by decide +kernel
theorem dX6_findRests_42 : decode cX6_findRests 42 = .ok (.iand, 1) := by decide +kernel
theorem dX6_findRests_43 : decode cX6_findRests 43 = .ok (.iload 4, 2) := by decide +kernel
theorem dX6_findRests_45 : decode cX6_findRests 45 = .ok (.iconst 2, 1) := by decide +kernel
theorem dX6_findRests_46 : decode cX6_findRests 46 = .ok (.irem, 1) := by decide +kernel
theorem dX6_findRests_47 : decode cX6_findRests 47 = .ok (.ifCond .ne 9, 3) := by decide +kernel
theorem dX6_findRests_50 : decode cX6_findRests 50 = .ok (.iconst 1, 1) := by decide +kernel
theorem dX6_findRests_51 : decode cX6_findRests 51 = .ok (.iload_n 2, 1) := by decide +kernel
theorem dX6_findRests_52 : decode cX6_findRests 52 = .ok (.ishl, 1) := by decide +kernel
theorem dX6_findRests_53 : decode cX6_findRests 53 = .ok (.goto 4, 3) := by decide +kernel
theorem dX6_findRests_56 : decode cX6_findRests 56 = .ok (.iconst 0, 1) := by decide +kernel
theorem dX6_findRests_57 : decode cX6_findRests 57 = .ok (.iconst (-1), 1) := by decide +kernel
theorem dX6_findRests_58 : decode cX6_findRests 58 = .ok (.ixor, 1) := by decide +kernel
theorem dX6_findRests_59 : decode cX6_findRests 59 = .ok (.iand, 1) := by decide +kernel
theorem dX6_findRests_60 : decode cX6_findRests 60 = .ok (.istore 5, 2) := by decide +kernel
theorem dX6_findRests_62 : decode cX6_findRests 62 = .ok (.aload_n 0, 1) := by decide +kernel
theorem dX6_findRests_63 : decode cX6_findRests 63 = .ok (.getfield 47, 3) := by decide +kernel
theorem dX6_findRests_66 : decode cX6_findRests 66 = .ok (.iconst 2, 1) := by decide +kernel
theorem dX6_findRests_67 : decode cX6_findRests 67 = .ok (.iload 4, 2) := by decide +kernel
theorem dX6_findRests_69 : decode cX6_findRests 69 = .ok (.imul, 1) := by decide +kernel
theorem dX6_findRests_70 : decode cX6_findRests 70 = .ok (.aload_n 0, 1) := by decide +kernel
theorem dX6_findRests_71 : decode cX6_findRests 71 = .ok (.iload_n 1, 1) := by decide +kernel
theorem dX6_findRests_72 : decode cX6_findRests 72 = .ok (.iload_n 3, 1) := by decide +kernel
theorem dX6_findRests_73 : decode cX6_findRests 73 = .ok (.iload 5, 2) := by decide +kernel
theorem dX6_findRests_75 : decode cX6_findRests 75 = .ok (.iload 4, 2) := by decide +kernel
theorem dX6_findRests_77 : decode cX6_findRests 77 = .ok (.iconst 2, 1) := by decide +kernel
theorem dX6_findRests_78 : decode cX6_findRests 78 = .ok (.idiv, 1) := by decide +kernel
theorem dX6_findRests_79 : decode cX6_findRests 79 = .ok (.iconst 1, 1) := by decide +kernel
theorem dX6_findRests_80 : decode cX6_findRests 80 = .ok (.if_icmp .ne 7, 3) := by decide +kernel
theorem dX6_findRests_83 : decode cX6_findRests 83 = .ok (.iconst 1, 1) := by decide +kernel
theorem dX6_findRests_84 : decode cX6_findRests 84 = .ok (.goto 4, 3) := by decide +kernel
theorem dX6_findRests_87 : decode cX6_findRests 87 = .ok (.iconst 0, 1) := by decide +kernel
theorem dX6_findRests_88 : decode cX6_findRests 88 = .ok (.invokevirtual 201, 3) := by decide +kernel
theorem dX6_findRests_91 : decode cX6_findRests 91 = .ok (.iastore, 1) := by decide +kernel
theorem dX6_findRests_92 : decode cX6_findRests 92 = .ok (.aload_n 0, 1) := by decide +kernel
theorem dX6_findRests_93 : decode cX6_findRests 93 = .ok (.getfield 47, 3) := by decide +kernel
theorem dX6_findRests_96 : decode cX6_findRests 96 = .ok (.iconst 2, 1) := by decide +kernel
theorem dX6_findRests_97 : decode cX6_findRests 97 = .ok (.iload 4, 2) := by decide +kernel
theorem dX6_findRests_99 : decode cX6_findRests 99 = .ok (.imul, 1) := by decide +kernel
theorem dX6_findRests_100 : decode cX6_findRests 100 = .ok (.iconst 1, 1) := by decide +kernel
theorem dX6_findRests_101 : decode cX6_findRests 101 = .ok (.iadd, 1) := by decide +kernel
theorem dX6_findRests_102 : decode cX6_findRests 102 = .ok (.aload_n 0, 1) := by decide +kernel
theorem dX6_findRests_103 : decode cX6_findRests 103 = .ok (.iload_n 2, 1) := by decide +kernel
theorem dX6_findRests_104 : decode cX6_findRests 104 = .ok (.iload_n 3, 1) := by decide +kernel
theorem dX6_findRests_105 : decode cX6_findRests 105 = .ok (.iload 5, 2) := by decide +kernel
theorem dX6_findRests_107 : decode cX6_findRests 107 = .ok (.iload 4, 2) := by decide +kernel
theorem dX6_findRests_109 : decode cX6_findRests 109 = .ok (.iconst 2, 1) := by decide +kernel
theorem dX6_findRests_110 : decode cX6_findRests 110 = .ok (.irem, 1) := by decide +kernel
theorem dX6_findRests_111 : decode cX6_findRests 111 = .ok (.iconst 1, 1) := by decide +kernel
theorem dX6_findRests_112 : decode cX6_findRests 112 = .ok (.if_icmp .ne 7, 3) := by decide +kernel
theorem dX6_findRests_115 : decode cX6_findRests 115 = .ok (.iconst 1, 1) := by decide +kernel
theorem dX6_findRests_116 : decode cX6_findRests 116 = .ok (.goto 4, 3) := by decide +kernel
theorem dX6_findRests_119 : decode cX6_findRests 119 = .ok (.iconst 0, 1) := by decide +kernel
theorem dX6_findRests_120 : decode cX6_findRests 120 = .ok (.invokevirtual 201, 3) := by decide +kernel
theorem dX6_findRests_123 : decode cX6_findRests 123 = .ok (.iastore, 1) := by decide +kernel
theorem dX6_findRests_124 : decode cX6_findRests 124 = .ok (.iinc 4 1, 3) := by decide +kernel
theorem dX6_findRests_127 : decode cX6_findRests 127 = .ok (.goto (-114), 3) := by decide +kernel
theorem dX6_findRests_130 : decode cX6_findRests 130 = .ok (.aload_n 0, 1) := by decide +kernel
theorem dX6_findRests_131 : decode cX6_findRests 131 = .ok (.iconst 0, 1) := by decide +kernel
theorem dX6_findRests_132 : decode cX6_findRests 132 = .ok (.putfield 205, 3) := by decide +kernel
theorem dX6_findRests_135 : decode cX6_findRests 135 = .ok (.aload_n 0, 1) := by decide +kernel
theorem dX6_findRests_136 : decode cX6_findRests 136 = .ok (.bipush (-9), 2) := by decide +kernel
theorem dX6_findRests_138 : decode cX6_findRests 138 = .ok (.putfield 208, 3) := by decide +kernel
theorem dX6_findRests_141 : decode cX6_findRests 141 = .ok (.iconst 0, 1) := by decide +kernel
theorem dX6_findRests_142 : decode cX6_findRests 142 = .ok (.istore 4, 2) := by decide +kernel
theorem dX6_findRests_144 : decode cX6_findRests 144 = .ok (.iload 4, 2) := by decide +kernel
theorem dX6_findRests_146 : decode cX6_findRests 146 = .ok (.iconst 4, 1) := by decide +kernel
theorem dX6_findRests_147 : decode cX6_findRests 147 = .ok (.if_icmp .ge 120, 3) := by decide +kernel
theorem dX6_findRests_150 : decode cX6_findRests 150 = .ok (.aload_n 0, 1) := by decide +kernel
theorem dX6_findRests_151 : decode cX6_findRests 151 = .ok (.getfield 47, 3) := by decide +kernel
theorem dX6_findRests_154 : decode cX6_findRests 154 = .ok (.iconst 2, 1) := by decide +kernel
theorem dX6_findRests_155 : decode cX6_findRests 155 = .ok (.iload 4, 2) := by decide +kernel
theorem dX6_findRests_157 : decode cX6_findRests 157 = .ok (.iconst 2, 1) := by decide +kernel
theorem dX6_findRests_158 : decode cX6_findRests 158 = .ok (.ixor, 1) := by decide +kernel
theorem dX6_findRests_159 : decode cX6_findRests 159 = .ok (.imul, 1) := by decide +kernel
theorem dX6_findRests_160 : decode cX6_findRests 160 = .ok (.iaload, 1) := by decide +kernel
theorem dX6_findRests_161 : decode cX6_findRests 161 = .ok (.aload_n 0, 1) := by decide +kernel
theorem dX6_findRests_162 : decode cX6_findRests 162 = .ok (.getfield 47, 3) := by decide +kernel
theorem dX6_findRests_165 : decode cX6_findRests 165 = .ok (.iconst 2, 1) := by decide +kernel
theorem dX6_findRests_166 : decode cX6_findRests 166 = .ok (.iload 4, 2) := by decide +kernel
theorem dX6_findRests_168 : decode cX6_findRests 168 = .ok (.imul, 1) := by decide +kernel
theorem dX6_findRests_169 : decode cX6_findRests 169 = .ok (.iaload, 1) := by decide +kernel
theorem dX6_findRests_170 : decode cX6_findRests 170 = .ok (.if_icmp .gt 34, 3) := by decide +kernel
theorem dX6_findRests_173 : decode cX6_findRests 173 = .ok (.aload_n 0, 1) := by decide +kernel
theorem dX6_findRests_174 : decode cX6_findRests 174 = .ok (.getfield 47, 3) := by decide +kernel
theorem dX6_findRests_177 : decode cX6_findRests 177 = .ok (.iconst 2, 1) := by decide +kernel
theorem dX6_findRests_178 : decode cX6_findRests 178 = .ok (.iload 4, 2) := by decide +kernel
theorem dX6_findRests_180 : decode cX6_findRests 180 = .ok (.iconst 1, 1) := by decide +kernel
theorem dX6_findRests_181 : decode cX6_findRests 181 = .ok (.ixor, 1) := by decide +kernel
theorem dX6_findRests_182 : decode cX6_findRests 182 = .ok (.imul, 1) := by decide +kernel
theorem dX6_findRests_183 : decode cX6_findRests 183 = .ok (.iconst 1, 1) := by decide +kernel
theorem dX6_findRests_184 : decode cX6_findRests 184 = .ok (.iadd, 1) := by decide +kernel
theorem dX6_findRests_185 : decode cX6_findRests 185 = .ok (.iaload, 1) := by decide +kernel
theorem dX6_findRests_186 : decode cX6_findRests 186 = .ok (.aload_n 0, 1) := by decide +kernel
theorem dX6_findRests_187 : decode cX6_findRests 187 = .ok (.getfield 47, 3) := by decide +kernel
theorem dX6_findRests_190 : decode cX6_findRests 190 = .ok (.iconst 2, 1) := by decide +kernel
theorem dX6_findRests_191 : decode cX6_findRests 191 = .ok (.iload 4, 2) := by decide +kernel
theorem dX6_findRests_193 : decode cX6_findRests 193 = .ok (.imul, 1) := by decide +kernel
theorem dX6_findRests_194 : decode cX6_findRests 194 = .ok (.iconst 1, 1) := by decide +kernel
theorem dX6_findRests_195 : decode cX6_findRests 195 = .ok (.iadd, 1) := by decide +kernel
theorem dX6_findRests_196 : decode cX6_findRests 196 = .ok (.iaload, 1) := by decide +kernel
theorem dX6_findRests_197 : decode cX6_findRests 197 = .ok (.if_icmp .gt 7, 3) := by decide +kernel
theorem dX6_findRests_200 : decode cX6_findRests 200 = .ok (.iconst 1, 1) := by decide +kernel
theorem dX6_findRests_201 : decode cX6_findRests 201 = .ok (.goto 4, 3) := by decide +kernel
theorem dX6_findRests_204 : decode cX6_findRests 204 = .ok (.iconst 0, 1) := by decide +kernel
theorem dX6_findRests_205 : decode cX6_findRests 205 = .ok (.istore 5, 2) := by decide +kernel
theorem dX6_findRests_207 : decode cX6_findRests 207 = .ok (.aload_n 0, 1) := by decide +kernel
theorem dX6_findRests_208 : decode cX6_findRests 208 = .ok (.iload 5, 2) := by decide +kernel
theorem dX6_findRests_210 : decode cX6_findRests 210 = .ok (.ifCond .eq 25, 3) := by decide +kernel
theorem dX6_findRests_213 : decode cX6_findRests 213 = .ok (.aload_n 0, 1) := by decide +kernel
theorem dX6_findRests_214 : decode cX6_findRests 214 = .ok (.getfield 205, 3) := by decide +kernel
theorem dX6_findRests_217 : decode cX6_findRests 217 = .ok (.ifCond .ne 18, 3) := by decide +kernel
theorem dX6_findRests_220 : decode cX6_findRests 220 = .ok (.bipush 10, 2) := by decide +kernel
theorem dX6_findRests_222 : decode cX6_findRests 222 = .ok (.iload 4, 2) := by decide +kernel
theorem dX6_findRests_224 : decode cX6_findRests 224 = .ok (.iconst 2, 1) := by decide +kernel
theorem dX6_findRests_225 : decode cX6_findRests 225 = .ok (.idiv, 1) := by decide +kernel
theorem dX6_findRests_226 : decode cX6_findRests 226 = .ok (.imul, 1) := by decide +kernel
theorem dX6_findRests_227 : decode cX6_findRests 227 = .ok (.iload 4, 2) := by decide +kernel
theorem dX6_findRests_229 : decode cX6_findRests 229 = .ok (.iconst 2, 1) := by decide +kernel
theorem dX6_findRests_230 : decode cX6_findRests 230 = .ok (.irem, 1) := by decide +kernel
theorem dX6_findRests_231 : decode cX6_findRests 231 = .ok (.iadd, 1) := by decide +kernel
theorem dX6_findRests_232 : decode cX6_findRests 232 = .ok (.goto 7, 3) := by decide +kernel
theorem dX6_findRests_235 : decode cX6_findRests 235 = .ok (.aload_n 0, 1) := by decide +kernel
theorem dX6_findRests_236 : decode cX6_findRests 236 = .ok (.getfield 208, 3) := by decide +kernel
theorem dX6_findRests_239 : decode cX6_findRests 239 = .ok (.putfield 208, 3) := by decide +kernel
theorem dX6_findRests_242 : decode cX6_findRests 242 = .ok (.aload_n 0, 1) := by decide +kernel
theorem dX6_findRests_243 : decode cX6_findRests 243 = .ok (.dup, 1) := by decide +kernel
theorem dX6_findRests_244 : decode cX6_findRests 244 = .ok (.getfield 205, 3) := by decide +kernel
theorem dX6_findRests_247 : decode cX6_findRests 247 = .ok (.iload 5, 2) := by decide +kernel
theorem dX6_findRests_249 : decode cX6_findRests 249 = .ok (.ifCond .eq 7, 3) := by decide +kernel
theorem dX6_findRests_252 : decode cX6_findRests 252 = .ok (.iconst 1, 1) := by decide +kernel
theorem dX6_findRests_253 : decode cX6_findRests 253 = .ok (.goto 4, 3) := by decide +kernel
theorem dX6_findRests_256 : decode cX6_findRests 256 = .ok (.iconst 0, 1) := by decide +kernel
theorem dX6_findRests_257 : decode cX6_findRests 257 = .ok (.iadd, 1) := by decide +kernel
theorem dX6_findRests_258 : decode cX6_findRests 258 = .ok (.putfield 205, 3) := by decide +kernel
theorem dX6_findRests_261 : decode cX6_findRests 261 = .ok (.iinc 4 1, 3) := by decide +kernel
theorem dX6_findRests_264 : decode cX6_findRests 264 = .ok (.goto (-120), 3) := by decide +kernel
theorem dX6_findRests_267 : decode cX6_findRests 267 = .ok (.return_, 1) := by decide +kernel
set_option maxRecDepth 20000 in
theorem ggX6_rests_X6_noChild : GoodIn wsX6_rests wsX6_noChild := goodIn_r _ [9, 2, 10, 11, 8, 12, 38, 39, 40, 41, 42, 43, 44, 45, 46, 47, 48, 49, 50, 51, 52, 53, 54, 55, 56, 57, 58, 59, 60, 61, 62, 63, 64, 65, 66, 67, 68, 69] (by decide +kernel) (by decide +kernel)
set_option maxRecDepth 20000 in
theorem gX6_rests_X6_noChild : GoodIn wsX6_rests (wsV RX6 116 RX6 yX6_noChild wsX6_noChild) := goodIn_app (goodIn_of _ (by decide +kernel)) ggX6_rests_X6_noChild
set_option maxRecDepth 20000 in
theorem ggX6_rests_X6_in : GoodIn wsX6_rests wsX6_in := goodIn_r _ [12] (by decide +kernel) (by decide +kernel)
set_option maxRecDepth 20000 in
theorem gX6_rests_X6_in : GoodIn wsX6_rests (va_wsS RX6 60 yX6_in wsX6_in) := goodIn_app (goodIn_of _ (by decide +kernel)) ggX6_rests_X6_in
set_option maxRecDepth 20000 in
theorem ggX6_rests_X6_has : GoodIn wsX6_rests wsX6_has := goodIn_r _ [15] (by decide +kernel) (by decide +kernel)
set_option maxRecDepth 20000 in
theorem gX6_rests_X6_has : GoodIn wsX6_rests (va_wsS RX6 97 yX6_has wsX6_has) := goodIn_app (goodIn_of _ (by decide +kernel)) ggX6_rests_X6_has
set_option maxRecDepth 20000 in
theorem ggX6_rests_X6_findRests : GoodIn wsX6_rests wsX6_findRests := goodIn_r _ [19, 2, 20, 3, 4, 21, 22, 23, 8, 24, 25, 26, 27, 28, 13, 14, 15, 29, 30, 31, 32, 33, 34, 35, 36, 37, 38, 39, 40, 41, 42, 43, 44, 45, 46, 47, 48, 49, 50, 51, 52, 53, 54, 55, 56, 57, 58, 59, 60, 61, 62, 63, 64, 65, 66, 67, 68, 69] (by decide +kernel) (by decide +kernel)
set_option maxRecDepth 20000 in
theorem gX6_rests_X6_findRests : GoodIn wsX6_rests (wsV RX6 211 RX6 yX6_findRests wsX6_findRests) := goodIn_app (goodIn_of _ (by decide +kernel)) ggX6_rests_X6_findRests
theorem dX6_rests_0 : decode cX6_rests 0 = .ok (.aload_n 0, 1) := by decide +kernel
theorem dX6_rests_1 : decode cX6_rests 1 = .ok (.iconst 0, 1) := by decide +kernel
theorem dX6_rests_2 : decode cX6_rests 2 = .ok (.putfield 53, 3) := by decide +kernel
theorem dX6_rests_5 : decode cX6_rests 5 = .ok (.aload_n 0, 1) := by decide +kernel
theorem dX6_rests_6 : decode cX6_rests 6 = .ok (.iload_n 1, 1) := by decide +kernel
theorem dX6_rests_7 : decode cX6_rests 7 = .ok (.invokevirtual 116, 3) := by decide +kernel
theorem dX6_rests_10 : decode cX6_rests 10 = .ok (.ifCond .ne 11, 3) := by decide +kernel
theorem dX6_rests_13 : decode cX6_rests 13 = .ok (.aload_n 0, 1) := by decide +kernel
theorem dX6_rests_14 : decode cX6_rests 14 = .ok (.iload_n 2, 1) := by decide +kernel
theorem dX6_rests_15 : decode cX6_rests 15 = .ok (.invokevirtual 116, 3) := by decide +kernel
theorem dX6_rests_18 : decode cX6_rests 18 = .ok (.ifCond .eq 5, 3) := by decide +kernel
theorem dX6_rests_21 : decode cX6_rests 21 = .ok (.iconst (-1), 1) := by decide +kernel
theorem dX6_rests_22 : decode cX6_rests 22 = .ok (.ireturn, 1) := by decide +kernel
theorem dX6_rests_23 : decode cX6_rests 23 = .ok (.iload_n 1, 1) := by decide +kernel
theorem dX6_rests_24 : decode cX6_rests 24 = .ok (.iload_n 2, 1) := by decide +kernel
theorem dX6_rests_25 : decode cX6_rests 25 = .ok (.if_icmp .eq 13, 3) := by decide +kernel
theorem dX6_rests_28 : decode cX6_rests 28 = .ok (.iload_n 3, 1) := by decide +kernel
theorem dX6_rests_29 : decode cX6_rests 29 = .ok (.i2l, 1) := by decide +kernel
theorem dX6_rests_30 : decode cX6_rests 30 = .ok (.lconst 0, 1) := by decide +kernel
theorem dX6_rests_31 : decode cX6_rests 31 = .ok (.lconst 1, 1) := by decide +kernel
theorem dX6_rests_32 : decode cX6_rests 32 = .ok (.invokestatic 60, 3) := by decide +kernel
theorem dX6_rests_35 : decode cX6_rests 35 = .ok (.ifCond .ne 6, 3) := by decide +kernel
theorem dX6_rests_38 : decode cX6_rests 38 = .ok (.bipush (-2), 2) := by decide +kernel
theorem dX6_rests_40 : decode cX6_rests 40 = .ok (.ireturn, 1) := by decide +kernel
theorem dX6_rests_41 : decode cX6_rests 41 = .ok (.aload_n 0, 1) := by decide +kernel
theorem dX6_rests_42 : decode cX6_rests 42 = .ok (.getfield 22, 3) := by decide +kernel
theorem dX6_rests_45 : decode cX6_rests 45 = .ok (.bipush 21, 2) := by decide +kernel
theorem dX6_rests_47 : decode cX6_rests 47 = .ok (.iaload, 1) := by decide +kernel
theorem dX6_rests_48 : decode cX6_rests 48 = .ok (.iload_n 1, 1) := by decide +kernel
theorem dX6_rests_49 : decode cX6_rests 49 = .ok (.invokestatic 97, 3) := by decide +kernel
theorem dX6_rests_52 : decode cX6_rests 52 = .ok (.ifCond .eq 38, 3) := by decide +kernel
theorem dX6_rests_55 : decode cX6_rests 55 = .ok (.aload_n 0, 1) := by decide +kernel
theorem dX6_rests_56 : decode cX6_rests 56 = .ok (.getfield 22, 3) := by decide +kernel
theorem dX6_rests_59 : decode cX6_rests 59 = .ok (.bipush 21, 2) := by decide +kernel
theorem dX6_rests_61 : decode cX6_rests 61 = .ok (.iaload, 1) := by decide +kernel
theorem dX6_rests_62 : decode cX6_rests 62 = .ok (.iload_n 2, 1) := by decide +kernel
theorem dX6_rests_63 : decode cX6_rests 63 = .ok (.invokestatic 97, 3) := by decide +kernel
theorem dX6_rests_66 : decode cX6_rests 66 = .ok (.ifCond .eq 24, 3) := by decide +kernel
theorem dX6_rests_69 : decode cX6_rests 69 = .ok (.aload_n 0, 1) := by decide +kernel
theorem dX6_rests_70 : decode cX6_rests 70 = .ok (.getfield 22, 3) := by decide +kernel
theorem dX6_rests_73 : decode cX6_rests 73 = .ok (.bipush 7, 2) := by decide +kernel
theorem dX6_rests_75 : decode cX6_rests 75 = .ok (.iload_n 1, 1) := by decide +kernel
theorem dX6_rests_76 : decode cX6_rests 76 = .ok (.iadd, 1) := by decide +kernel
theorem dX6_rests_77 : decode cX6_rests 77 = .ok (.iaload, 1) := by decide +kernel
theorem dX6_rests_78 : decode cX6_rests 78 = .ok (.aload_n 0, 1) := by decide +kernel
theorem dX6_rests_79 : decode cX6_rests 79 = .ok (.getfield 22, 3) := by decide +kernel
theorem dX6_rests_82 : decode cX6_rests 82 = .ok (.bipush 7, 2) := by decide +kernel
theorem dX6_rests_84 : decode cX6_rests 84 = .ok (.iload_n 2, 1) := by decide +kernel
theorem dX6_rests_85 : decode cX6_rests 85 = .ok (.iadd, 1) := by decide +kernel
theorem dX6_rests_86 : decode cX6_rests 86 = .ok (.iaload, 1) := by decide +kernel
theorem dX6_rests_87 : decode cX6_rests 87 = .ok (.if_icmp .eq 6, 3) := by decide +kernel
theorem dX6_rests_90 : decode cX6_rests 90 = .ok (.bipush (-3), 2) := by decide +kernel
theorem dX6_rests_92 : decode cX6_rests 92 = .ok (.ireturn, 1) := by decide +kernel
theorem dX6_rests_93 : decode cX6_rests 93 = .ok (.aload_n 0, 1) := by decide +kernel
theorem dX6_rests_94 : decode cX6_rests 94 = .ok (.iload_n 1, 1) := by decide +kernel
theorem dX6_rests_95 : decode cX6_rests 95 = .ok (.iload_n 2, 1) := by decide +kernel
theorem dX6_rests_96 : decode cX6_rests 96 = .ok (.invokevirtual 211, 3) := by decide +kernel
theorem dX6_rests_99 : decode cX6_rests 99 = .ok (.iload_n 3, 1) := by decide +kernel
theorem dX6_rests_100 : decode cX6_rests 100 = .ok (.ifCond .ne 10, 3) := by decide +kernel
theorem dX6_rests_103 : decode cX6_rests 103 = .ok (.aload_n 0, 1) := by decide +kernel
theorem dX6_rests_104 : decode cX6_rests 104 = .ok (.getfield 205, 3) := by decide +kernel
theorem dX6_rests_107 : decode cX6_rests 107 = .ok (.goto 7, 3) := by decide +kernel
theorem dX6_rests_110 : decode cX6_rests 110 = .ok (.aload_n 0, 1) := by decide +kernel
theorem dX6_rests_111 : decode cX6_rests 111 = .ok (.getfield 208, 3) := by decide +kernel
theorem dX6_rests_114 : decode cX6_rests 114 = .ok (.ireturn, 1) := by decide +kernel
set_option maxRecDepth 20000 in
theorem ggX6_odds_X6_noChild : GoodIn wsX6_odds wsX6_noChild := goodIn_r _ [8, 3, 9, 10, 7, 11, 36, 37, 38, 39, 40, 41, 42, 43, 44, 45, 46, 47, 48, 49, 50, 51, 52, 53, 54, 55, 56, 57, 58, 59, 60, 61, 62, 63, 64, 65, 66, 67] (by decide +kernel) (by decide +kernel)
set_option maxRecDepth 20000 in
theorem gX6_odds_X6_noChild : GoodIn wsX6_odds (wsV RX6 116 RX6 yX6_noChild wsX6_noChild) := goodIn_app (goodIn_of _ (by decide +kernel)) ggX6_odds_X6_noChild
set_option maxRecDepth 20000 in
theorem ggX6_odds_X6_in : GoodIn wsX6_odds wsX6_in := goodIn_r _ [11] (by decide +kernel) (by decide +kernel)
set_option maxRecDepth 20000 in
theorem gX6_odds_X6_in : GoodIn wsX6_odds (va_wsS RX6 60 yX6_in wsX6_in) := goodIn_app (goodIn_of _ (by decide +kernel)) ggX6_odds_X6_in
set_option maxRecDepth 20000 in
theorem ggX6_odds_X6_many : GoodIn wsX6_odds wsX6_many := goodIn_r _ [14] (by decide +kernel) (by decide +kernel)
set_option maxRecDepth 20000 in
theorem gX6_odds_X6_many : GoodIn wsX6_odds (va_wsS RX6 134 yX6_many wsX6_many) := goodIn_app (goodIn_of _ (by decide +kernel)) ggX6_odds_X6_many
set_option maxRecDepth 20000 in
theorem ggX6_odds_X6_has : GoodIn wsX6_odds wsX6_has := goodIn_r _ [17] (by decide +kernel) (by decide +kernel)
set_option maxRecDepth 20000 in
theorem gX6_odds_X6_has : GoodIn wsX6_odds (va_wsS RX6 97 yX6_has wsX6_has) := goodIn_app (goodIn_of _ (by decide +kernel)) ggX6_odds_X6_has
set_option maxRecDepth 20000 in
theorem ggX6_odds_X6_heirsOf : GoodIn wsX6_odds wsX6_heirsOf := goodIn_r _ [20, 15, 16, 7, 17, 21, 22, 23, 24, 25, 26] (by decide +kernel) (by decide +kernel)
set_option maxRecDepth 20000 in
theorem gX6_odds_X6_heirsOf : GoodIn wsX6_odds (va_wsS RX6 109 yX6_heirsOf wsX6_heirsOf) := goodIn_app (goodIn_of _ (by decide +kernel)) ggX6_odds_X6_heirsOf
set_option maxRecDepth 20000 in
theorem ggX6_odds_X6_power : GoodIn wsX6_odds wsX6_power := goodIn_r _ [29] (by decide +kernel) (by decide +kernel)
set_option maxRecDepth 20000 in
theorem gX6_odds_X6_power : GoodIn wsX6_odds (va_wsS RX6 164 yX6_power wsX6_power) := goodIn_app (goodIn_of _ (by decide +kernel)) ggX6_odds_X6_power
set_option maxRecDepth 20000 in
theorem ggX6_odds_X6_fraction : GoodIn wsX6_odds wsX6_fraction := goodIn_r _ [32, 33, 34, 7, 35] (by decide +kernel) (by decide +kernel)
set_option maxRecDepth 20000 in
theorem gX6_odds_X6_fraction : GoodIn wsX6_odds (va_wsS RX6 176 yX6_fraction wsX6_fraction) := goodIn_app (goodIn_of _ (by decide +kernel)) ggX6_odds_X6_fraction
theorem dX6_odds_0 : decode cX6_odds 0 = .ok (.aload_n 0, 1) := by decide +kernel
theorem dX6_odds_1 : decode cX6_odds 1 = .ok (.iconst 0, 1) := by decide +kernel
theorem dX6_odds_2 : decode cX6_odds 2 = .ok (.putfield 53, 3) := by decide +kernel
theorem dX6_odds_5 : decode cX6_odds 5 = .ok (.aload_n 0, 1) := by decide +kernel
theorem dX6_odds_6 : decode cX6_odds 6 = .ok (.iload_n 1, 1) := by decide +kernel
theorem dX6_odds_7 : decode cX6_odds 7 = .ok (.invokevirtual 116, 3) := by decide +kernel
theorem dX6_odds_10 : decode cX6_odds 10 = .ok (.ifCond .eq 5, 3) := by decide +kernel
theorem dX6_odds_13 : decode cX6_odds 13 = .ok (.iconst (-1), 1) := by decide +kernel
theorem dX6_odds_14 : decode cX6_odds 14 = .ok (.ireturn, 1) := by decide +kernel
theorem dX6_odds_15 : decode cX6_odds 15 = .ok (.iload_n 2, 1) := by decide +kernel
theorem dX6_odds_16 : decode cX6_odds 16 = .ok (.i2l, 1) := by decide +kernel
theorem dX6_odds_17 : decode cX6_odds 17 = .ok (.lconst 0, 1) := by decide +kernel
theorem dX6_odds_18 : decode cX6_odds 18 = .ok (.ldc2_w 215, 3) := by decide +kernel
theorem dX6_odds_21 : decode cX6_odds 21 = .ok (.invokestatic 60, 3) := by decide +kernel
theorem dX6_odds_24 : decode cX6_odds 24 = .ok (.ifCond .ne 6, 3) := by decide +kernel
theorem dX6_odds_27 : decode cX6_odds 27 = .ok (.bipush (-2), 2) := by decide +kernel
theorem dX6_odds_29 : decode cX6_odds 29 = .ok (.ireturn, 1) := by decide +kernel
theorem dX6_odds_30 : decode cX6_odds 30 = .ok (.aload_n 0, 1) := by decide +kernel
theorem dX6_odds_31 : decode cX6_odds 31 = .ok (.getfield 22, 3) := by decide +kernel
theorem dX6_odds_34 : decode cX6_odds 34 = .ok (.bipush 21, 2) := by decide +kernel
theorem dX6_odds_36 : decode cX6_odds 36 = .ok (.iaload, 1) := by decide +kernel
theorem dX6_odds_37 : decode cX6_odds 37 = .ok (.istore 4, 2) := by decide +kernel
theorem dX6_odds_39 : decode cX6_odds 39 = .ok (.iload 4, 2) := by decide +kernel
theorem dX6_odds_41 : decode cX6_odds 41 = .ok (.invokestatic 134, 3) := by decide +kernel
theorem dX6_odds_44 : decode cX6_odds 44 = .ok (.istore 5, 2) := by decide +kernel
theorem dX6_odds_46 : decode cX6_odds 46 = .ok (.aload_n 0, 1) := by decide +kernel
theorem dX6_odds_47 : decode cX6_odds 47 = .ok (.getfield 22, 3) := by decide +kernel
theorem dX6_odds_50 : decode cX6_odds 50 = .ok (.bipush 7, 2) := by decide +kernel
theorem dX6_odds_52 : decode cX6_odds 52 = .ok (.iload_n 1, 1) := by decide +kernel
theorem dX6_odds_53 : decode cX6_odds 53 = .ok (.iadd, 1) := by decide +kernel
theorem dX6_odds_54 : decode cX6_odds 54 = .ok (.iaload, 1) := by decide +kernel
theorem dX6_odds_55 : decode cX6_odds 55 = .ok (.istore 6, 2) := by decide +kernel
theorem dX6_odds_57 : decode cX6_odds 57 = .ok (.iconst 0, 1) := by decide +kernel
theorem dX6_odds_58 : decode cX6_odds 58 = .ok (.istore 7, 2) := by decide +kernel
theorem dX6_odds_60 : decode cX6_odds 60 = .ok (.iconst 0, 1) := by decide +kernel
theorem dX6_odds_61 : decode cX6_odds 61 = .ok (.istore 8, 2) := by decide +kernel
theorem dX6_odds_63 : decode cX6_odds 63 = .ok (.iload 8, 2) := by decide +kernel
theorem dX6_odds_65 : decode cX6_odds 65 = .ok (.iload 4, 2) := by decide +kernel
theorem dX6_odds_67 : decode cX6_odds 67 = .ok (.if_icmp .gt 89, 3) := by decide +kernel
theorem dX6_odds_70 : decode cX6_odds 70 = .ok (.iload 4, 2) := by decide +kernel
theorem dX6_odds_72 : decode cX6_odds 72 = .ok (.iload_n 1, 1) := by decide +kernel
theorem dX6_odds_73 : decode cX6_odds 73 = .ok (.invokestatic 97, 3) := by decide +kernel
theorem dX6_odds_76 : decode cX6_odds 76 = .ok (.ifCond .eq 80, 3) := by decide +kernel
theorem dX6_odds_79 : decode cX6_odds 79 = .ok (.iload 8, 2) := by decide +kernel
theorem dX6_odds_81 : decode cX6_odds 81 = .ok (.iload 4, 2) := by decide +kernel
theorem dX6_odds_83 : decode cX6_odds 83 = .ok (.iconst (-1), 1) := by decide +kernel
theorem dX6_odds_84 : decode cX6_odds 84 = .ok (.ixor, 1) := by decide +kernel
theorem dX6_odds_85 : decode cX6_odds 85 = .ok (.iand, 1) := by decide +kernel
theorem dX6_odds_86 : decode cX6_odds 86 = .ok (.ifCond .ne 64, 3) := by decide +kernel
theorem dX6_odds_89 : decode cX6_odds 89 = .ok (.aload_n 0, 1) := by decide +kernel
theorem dX6_odds_90 : decode cX6_odds 90 = .ok (.getfield 22, 3) := by decide +kernel
theorem dX6_odds_93 : decode cX6_odds 93 = .ok (.iload 6, 2) := by decide +kernel
theorem dX6_odds_95 : decode cX6_odds 95 = .ok (.aload_n 0, 1) := by decide +kernel
theorem dX6_odds_96 : decode cX6_odds 96 = .ok (.getfield 22, 3) := by decide +kernel
theorem dX6_odds_99 : decode cX6_odds 99 = .ok (.bipush 22, 2) := by decide +kernel
theorem dX6_odds_101 : decode cX6_odds 101 = .ok (.iaload, 1) := by decide +kernel
theorem dX6_odds_102 : decode cX6_odds 102 = .ok (.iload 6, 2) := by decide +kernel
theorem dX6_odds_104 : decode cX6_odds 104 = .ok (.ishr, 1) := by decide +kernel
theorem dX6_odds_105 : decode cX6_odds 105 = .ok (.iconst 1, 1) := by decide +kernel
theorem dX6_odds_106 : decode cX6_odds 106 = .ok (.iand, 1) := by decide +kernel
theorem dX6_odds_107 : decode cX6_odds 107 = .ok (.iload 8, 2) := by decide +kernel
theorem dX6_odds_109 : decode cX6_odds 109 = .ok (.invokestatic 109, 3) := by decide +kernel
theorem dX6_odds_112 : decode cX6_odds 112 = .ok (.iload_n 1, 1) := by decide +kernel
theorem dX6_odds_113 : decode cX6_odds 113 = .ok (.invokestatic 97, 3) := by decide +kernel
theorem dX6_odds_116 : decode cX6_odds 116 = .ok (.ifCond .eq 34, 3) := by decide +kernel
theorem dX6_odds_119 : decode cX6_odds 119 = .ok (.iload 8, 2) := by decide +kernel
theorem dX6_odds_121 : decode cX6_odds 121 = .ok (.invokestatic 134, 3) := by decide +kernel
theorem dX6_odds_124 : decode cX6_odds 124 = .ok (.istore 9, 2) := by decide +kernel
theorem dX6_odds_126 : decode cX6_odds 126 = .ok (.iload 7, 2) := by decide +kernel
theorem dX6_odds_128 : decode cX6_odds 128 = .ok (.bipush 10, 2) := by decide +kernel
theorem dX6_odds_130 : decode cX6_odds 130 = .ok (.iload_n 2, 1) := by decide +kernel
theorem dX6_odds_131 : decode cX6_odds 131 = .ok (.isub, 1) := by decide +kernel
theorem dX6_odds_132 : decode cX6_odds 132 = .ok (.iload 9, 2) := by decide +kernel
theorem dX6_odds_134 : decode cX6_odds 134 = .ok (.invokestatic 164, 3) := by decide +kernel
theorem dX6_odds_137 : decode cX6_odds 137 = .ok (.iload_n 2, 1) := by decide +kernel
theorem dX6_odds_138 : decode cX6_odds 138 = .ok (.iload 5, 2) := by decide +kernel
theorem dX6_odds_140 : decode cX6_odds 140 = .ok (.iload 9, 2) := by decide +kernel
theorem dX6_odds_142 : decode cX6_odds 142 = .ok (.isub, 1) := by decide +kernel
theorem dX6_odds_143 : decode cX6_odds 143 = .ok (.invokestatic 164, 3) := by decide +kernel
theorem dX6_odds_146 : decode cX6_odds 146 = .ok (.imul, 1) := by decide +kernel
theorem dX6_odds_147 : decode cX6_odds 147 = .ok (.iadd, 1) := by decide +kernel
theorem dX6_odds_148 : decode cX6_odds 148 = .ok (.istore 7, 2) := by decide +kernel
theorem dX6_odds_150 : decode cX6_odds 150 = .ok (.iinc 8 1, 3) := by decide +kernel
theorem dX6_odds_153 : decode cX6_odds 153 = .ok (.goto (-90), 3) := by decide +kernel
theorem dX6_odds_156 : decode cX6_odds 156 = .ok (.iload 7, 2) := by decide +kernel
theorem dX6_odds_158 : decode cX6_odds 158 = .ok (.bipush 10, 2) := by decide +kernel
theorem dX6_odds_160 : decode cX6_odds 160 = .ok (.iload 5, 2) := by decide +kernel
theorem dX6_odds_162 : decode cX6_odds 162 = .ok (.invokestatic 164, 3) := by decide +kernel
theorem dX6_odds_165 : decode cX6_odds 165 = .ok (.iload_n 3, 1) := by decide +kernel
theorem dX6_odds_166 : decode cX6_odds 166 = .ok (.invokestatic 176, 3) := by decide +kernel
theorem dX6_odds_169 : decode cX6_odds 169 = .ok (.ireturn, 1) := by decide +kernel
theorem dX6_seed_0 : decode cX6_seed 0 = .ok (.aload_n 0, 1) := by decide +kernel
theorem dX6_seed_1 : decode cX6_seed 1 = .ok (.iconst 0, 1) := by decide +kernel
theorem dX6_seed_2 : decode cX6_seed 2 = .ok (.putfield 53, 3) := by decide +kernel
theorem dX6_seed_5 : decode cX6_seed 5 = .ok (.aload_n 0, 1) := by decide +kernel
theorem dX6_seed_6 : decode cX6_seed 6 = .ok (.getfield 217, 3) := by decide +kernel
theorem dX6_seed_9 : decode cX6_seed 9 = .ok (.lstore_n 3, 1) := by decide +kernel
theorem dX6_seed_10 : decode cX6_seed 10 = .ok (.aload_n 0, 1) := by decide +kernel
theorem dX6_seed_11 : decode cX6_seed 11 = .ok (.lload_n 1, 1) := by decide +kernel
theorem dX6_seed_12 : decode cX6_seed 12 = .ok (.putfield 217, 3) := by decide +kernel
theorem dX6_seed_15 : decode cX6_seed 15 = .ok (.lload_n 3, 1) := by decide +kernel
theorem dX6_seed_16 : decode cX6_seed 16 = .ok (.lreturn, 1) := by decide +kernel
set_option maxRecDepth 20000 in
theorem ggX6_towns_X6_in : GoodIn wsX6_towns wsX6_in := goodIn_r _ [12] (by decide +kernel) (by decide +kernel)
set_option maxRecDepth 20000 in
theorem gX6_towns_X6_in : GoodIn wsX6_towns (va_wsS RX6 60 yX6_in wsX6_in) := goodIn_app (goodIn_of _ (by decide +kernel)) ggX6_towns_X6_in
set_option maxRecDepth 20000 in
theorem ggX6_towns_X6_begin : GoodIn wsX6_towns wsX6_begin := goodIn_r _ [16, 8, 17, 44, 45, 46, 47, 48, 49, 50, 51, 52, 53, 54, 55, 56, 57, 58, 59, 60, 61, 62, 63, 64, 65, 66, 67, 68, 69, 70, 71, 72, 73, 74, 75] (by decide +kernel) (by decide +kernel)
set_option maxRecDepth 20000 in
theorem gX6_towns_X6_begin : GoodIn wsX6_towns (wsV RX6 155 RX6 yX6_begin wsX6_begin) := goodIn_app (goodIn_of _ (by decide +kernel)) ggX6_towns_X6_begin
set_option maxRecDepth 20000 in
theorem ggX6_towns_X6_heirsNow : GoodIn wsX6_towns wsX6_heirsNow := goodIn_r _ [20, 21, 22, 11, 23, 24, 25, 26, 27, 28, 29, 30, 31, 32] (by decide +kernel) (by decide +kernel)
set_option maxRecDepth 20000 in
theorem gX6_towns_X6_heirsNow : GoodIn wsX6_towns (va_wsS RX6 125 yX6_heirsNow wsX6_heirsNow) := goodIn_app (goodIn_of _ (by decide +kernel)) ggX6_towns_X6_heirsNow
set_option maxRecDepth 20000 in
theorem ggX6_towns_X6_noChild : GoodIn wsX6_towns wsX6_noChild := goodIn_r _ [36, 17, 9, 10, 11, 12, 44, 45, 46, 47, 48, 49, 50, 51, 52, 53, 54, 55, 56, 57, 58, 59, 60, 61, 62, 63, 64, 65, 66, 67, 68, 69, 70, 71, 72, 73, 74, 75] (by decide +kernel) (by decide +kernel)
set_option maxRecDepth 20000 in
theorem gX6_towns_X6_noChild : GoodIn wsX6_towns (wsV RX6 116 RX6 yX6_noChild wsX6_noChild) := goodIn_app (goodIn_of _ (by decide +kernel)) ggX6_towns_X6_noChild
set_option maxRecDepth 20000 in
theorem ggX6_towns_X6_noHouse : GoodIn wsX6_towns wsX6_noHouse := goodIn_r _ [40, 7, 9, 10, 11, 12, 44, 45, 46, 47, 48, 49, 50, 51, 52, 53, 54, 55, 56, 57, 58, 59, 60, 61, 62, 63, 64, 65, 66, 67, 68, 69, 70, 71, 72, 73, 74, 75] (by decide +kernel) (by decide +kernel)
set_option maxRecDepth 20000 in
theorem gX6_towns_X6_noHouse : GoodIn wsX6_towns (wsV RX6 120 RX6 yX6_noHouse wsX6_noHouse) := goodIn_app (goodIn_of _ (by decide +kernel)) ggX6_towns_X6_noHouse
set_option maxRecDepth 20000 in
theorem ggX6_towns_X6_goYear : GoodIn wsX6_towns wsX6_goYear := goodIn_r _ [43] (by decide +kernel) (by decide +kernel)
set_option maxRecDepth 20000 in
theorem gX6_towns_X6_goYear : GoodIn wsX6_towns (va_wsS RX6 142 yX6_goYear wsX6_goYear) := goodIn_app (goodIn_of _ (by decide +kernel)) ggX6_towns_X6_goYear
theorem dX6_towns_0 : decode cX6_towns 0 = .ok (.aload_n 0, 1) := by decide +kernel
theorem dX6_towns_1 : decode cX6_towns 1 = .ok (.iconst 0, 1) := by decide +kernel
theorem dX6_towns_2 : decode cX6_towns 2 = .ok (.putfield 53, 3) := by decide +kernel
theorem dX6_towns_5 : decode cX6_towns 5 = .ok (.iload_n 1, 1) := by decide +kernel
theorem dX6_towns_6 : decode cX6_towns 6 = .ok (.i2l, 1) := by decide +kernel
theorem dX6_towns_7 : decode cX6_towns 7 = .ok (.lconst 1, 1) := by decide +kernel
theorem dX6_towns_8 : decode cX6_towns 8 = .ok (.ldc2_w 221, 3) := by decide +kernel
theorem dX6_towns_11 : decode cX6_towns 11 = .ok (.invokestatic 60, 3) := by decide +kernel
theorem dX6_towns_14 : decode cX6_towns 14 = .ok (.ifCond .ne 6, 3) := by decide +kernel
theorem dX6_towns_17 : decode cX6_towns 17 = .ok (.bipush (-2), 2) := by decide +kernel
theorem dX6_towns_19 : decode cX6_towns 19 = .ok (.ireturn, 1) := by decide +kernel
theorem dX6_towns_20 : decode cX6_towns 20 = .ok (.aload_n 0, 1) := by decide +kernel
theorem dX6_towns_21 : decode cX6_towns 21 = .ok (.invokevirtual 155, 3) := by decide +kernel
theorem dX6_towns_24 : decode cX6_towns 24 = .ok (.iconst 0, 1) := by decide +kernel
theorem dX6_towns_25 : decode cX6_towns 25 = .ok (.istore_n 2, 1) := by decide +kernel
theorem dX6_towns_26 : decode cX6_towns 26 = .ok (.iconst 0, 1) := by decide +kernel
theorem dX6_towns_27 : decode cX6_towns 27 = .ok (.istore_n 3, 1) := by decide +kernel
theorem dX6_towns_28 : decode cX6_towns 28 = .ok (.iload_n 3, 1) := by decide +kernel
theorem dX6_towns_29 : decode cX6_towns 29 = .ok (.iload_n 1, 1) := by decide +kernel
theorem dX6_towns_30 : decode cX6_towns 30 = .ok (.if_icmp .ge 279, 3) := by decide +kernel
theorem dX6_towns_33 : decode cX6_towns 33 = .ok (.aload_n 0, 1) := by decide +kernel
theorem dX6_towns_34 : decode cX6_towns 34 = .ok (.aload_n 0, 1) := by decide +kernel
theorem dX6_towns_35 : decode cX6_towns 35 = .ok (.getfield 217, 3) := by decide +kernel
theorem dX6_towns_38 : decode cX6_towns 38 = .ok (.ldc2_w 223, 3) := by decide +kernel
theorem dX6_towns_41 : decode cX6_towns 41 = .ok (.lmul, 1) := by decide +kernel
theorem dX6_towns_42 : decode cX6_towns 42 = .ok (.ldc2_w 225, 3) := by decide +kernel
theorem dX6_towns_45 : decode cX6_towns 45 = .ok (.ladd, 1) := by decide +kernel
theorem dX6_towns_46 : decode cX6_towns 46 = .ok (.putfield 217, 3) := by decide +kernel
theorem dX6_towns_49 : decode cX6_towns 49 = .ok (.aload_n 0, 1) := by decide +kernel
theorem dX6_towns_50 : decode cX6_towns 50 = .ok (.getfield 217, 3) := by decide +kernel
theorem dX6_towns_53 : decode cX6_towns 53 = .ok (.bipush 33, 2) := by decide +kernel
theorem dX6_towns_55 : decode cX6_towns 55 = .ok (.lushr, 1) := by decide +kernel
theorem dX6_towns_56 : decode cX6_towns 56 = .ok (.ldc2_w 227, 3) := by decide +kernel
theorem dX6_towns_59 : decode cX6_towns 59 = .ok (.lrem, 1) := by decide +kernel
theorem dX6_towns_60 : decode cX6_towns 60 = .ok (.l2i, 1) := by decide +kernel
theorem dX6_towns_61 : decode cX6_towns 61 = .ok (.istore 4, 2) := by decide +kernel
theorem dX6_towns_63 : decode cX6_towns 63 = .ok (.aload_n 0, 1) := by decide +kernel
theorem dX6_towns_64 : decode cX6_towns 64 = .ok (.getfield 57, 3) := by decide +kernel
theorem dX6_towns_67 : decode cX6_towns 67 = .ok (.ifCond .le 14, 3) := by decide +kernel
theorem dX6_towns_70 : decode cX6_towns 70 = .ok (.aload_n 0, 1) := by decide +kernel
theorem dX6_towns_71 : decode cX6_towns 71 = .ok (.getfield 25, 3) := by decide +kernel
theorem dX6_towns_74 : decode cX6_towns 74 = .ok (.iconst 0, 1) := by decide +kernel
theorem dX6_towns_75 : decode cX6_towns 75 = .ok (.invokestatic 125, 3) := by decide +kernel
theorem dX6_towns_78 : decode cX6_towns 78 = .ok (.goto 4, 3) := by decide +kernel
theorem dX6_towns_81 : decode cX6_towns 81 = .ok (.iconst 0, 1) := by decide +kernel
theorem dX6_towns_82 : decode cX6_towns 82 = .ok (.istore 5, 2) := by decide +kernel
theorem dX6_towns_84 : decode cX6_towns 84 = .ok (.aload_n 0, 1) := by decide +kernel
theorem dX6_towns_85 : decode cX6_towns 85 = .ok (.getfield 57, 3) := by decide +kernel
theorem dX6_towns_88 : decode cX6_towns 88 = .ok (.iconst 1, 1) := by decide +kernel
theorem dX6_towns_89 : decode cX6_towns 89 = .ok (.if_icmp .le 14, 3) := by decide +kernel
theorem dX6_towns_92 : decode cX6_towns 92 = .ok (.aload_n 0, 1) := by decide +kernel
theorem dX6_towns_93 : decode cX6_towns 93 = .ok (.getfield 25, 3) := by decide +kernel
theorem dX6_towns_96 : decode cX6_towns 96 = .ok (.iconst 1, 1) := by decide +kernel
theorem dX6_towns_97 : decode cX6_towns 97 = .ok (.invokestatic 125, 3) := by decide +kernel
theorem dX6_towns_100 : decode cX6_towns 100 = .ok (.goto 4, 3) := by decide +kernel
theorem dX6_towns_103 : decode cX6_towns 103 = .ok (.iconst 0, 1) := by decide +kernel
theorem dX6_towns_104 : decode cX6_towns 104 = .ok (.istore 6, 2) := by decide +kernel
theorem dX6_towns_106 : decode cX6_towns 106 = .ok (.aload_n 0, 1) := by decide +kernel
theorem dX6_towns_107 : decode cX6_towns 107 = .ok (.getfield 57, 3) := by decide +kernel
theorem dX6_towns_110 : decode cX6_towns 110 = .ok (.iconst 2, 1) := by decide +kernel
theorem dX6_towns_111 : decode cX6_towns 111 = .ok (.if_icmp .le 14, 3) := by decide +kernel
theorem dX6_towns_114 : decode cX6_towns 114 = .ok (.aload_n 0, 1) := by decide +kernel
theorem dX6_towns_115 : decode cX6_towns 115 = .ok (.getfield 25, 3) := by decide +kernel
theorem dX6_towns_118 : decode cX6_towns 118 = .ok (.iconst 2, 1) := by decide +kernel
theorem dX6_towns_119 : decode cX6_towns 119 = .ok (.invokestatic 125, 3) := by decide +kernel
theorem dX6_towns_122 : decode cX6_towns 122 = .ok (.goto 4, 3) := by decide +kernel
theorem dX6_towns_125 : decode cX6_towns 125 = .ok (.iconst 0, 1) := by decide +kernel
theorem dX6_towns_126 : decode cX6_towns 126 = .ok (.istore 7, 2) := by decide +kernel
theorem dX6_towns_128 : decode cX6_towns 128 = .ok (.iload 4, 2) := by decide +kernel
theorem dX6_towns_130 : decode cX6_towns 130 = .ok (.bipush 7, 2) := by decide +kernel
theorem dX6_towns_132 : decode cX6_towns 132 = .ok (.if_icmp .ge 35, 3) := by decide +kernel
theorem dX6_towns_135 : decode cX6_towns 135 = .ok (.aload_n 0, 1) := by decide +kernel
theorem dX6_towns_136 : decode cX6_towns 136 = .ok (.getfield 25, 3) := by decide +kernel
theorem dX6_towns_139 : decode cX6_towns 139 = .ok (.bipush 21, 2) := by decide +kernel
theorem dX6_towns_141 : decode cX6_towns 141 = .ok (.dup2, 1) := by decide +kernel
theorem dX6_towns_142 : decode cX6_towns 142 = .ok (.iaload, 1) := by decide +kernel
theorem dX6_towns_143 : decode cX6_towns 143 = .ok (.aload_n 0, 1) := by decide +kernel
theorem dX6_towns_144 : decode cX6_towns 144 = .ok (.iload 4, 2) := by decide +kernel
theorem dX6_towns_146 : decode cX6_towns 146 = .ok (.invokevirtual 116, 3) := by decide +kernel
theorem dX6_towns_149 : decode cX6_towns 149 = .ok (.ifCond .eq 7, 3) := by decide +kernel
theorem dX6_towns_152 : decode cX6_towns 152 = .ok (.iconst (-1), 1) := by decide +kernel
theorem dX6_towns_153 : decode cX6_towns 153 = .ok (.goto 9, 3) := by decide +kernel
theorem dX6_towns_156 : decode cX6_towns 156 = .ok (.iconst 1, 1) := by decide +kernel
theorem dX6_towns_157 : decode cX6_towns 157 = .ok (.iload 4, 2) := by decide +kernel
theorem dX6_towns_159 : decode cX6_towns 159 = .ok (.ishl, 1) := by decide +kernel
theorem dX6_towns_160 : decode cX6_towns 160 = .ok (.iconst (-1), 1) := by decide +kernel
theorem dX6_towns_161 : decode cX6_towns 161 = .ok (.ixor, 1) := by decide +kernel
theorem dX6_towns_162 : decode cX6_towns 162 = .ok (.iand, 1) := by decide +kernel
theorem dX6_towns_163 : decode cX6_towns 163 = .ok (.iastore, 1) := by decide +kernel
theorem dX6_towns_164 : decode cX6_towns 164 = .ok (.goto 53, 3) := by decide +kernel
theorem dX6_towns_167 : decode cX6_towns 167 = .ok (.iload 4, 2) := by decide +kernel
theorem dX6_towns_169 : decode cX6_towns 169 = .ok (.bipush 10, 2) := by decide +kernel
theorem dX6_towns_171 : decode cX6_towns 171 = .ok (.if_icmp .ge 39, 3) := by decide +kernel
theorem dX6_towns_174 : decode cX6_towns 174 = .ok (.aload_n 0, 1) := by decide +kernel
theorem dX6_towns_175 : decode cX6_towns 175 = .ok (.getfield 25, 3) := by decide +kernel
theorem dX6_towns_178 : decode cX6_towns 178 = .ok (.bipush 22, 2) := by decide +kernel
theorem dX6_towns_180 : decode cX6_towns 180 = .ok (.dup2, 1) := by decide +kernel
theorem dX6_towns_181 : decode cX6_towns 181 = .ok (.iaload, 1) := by decide +kernel
theorem dX6_towns_182 : decode cX6_towns 182 = .ok (.aload_n 0, 1) := by decide +kernel
theorem dX6_towns_183 : decode cX6_towns 183 = .ok (.iload 4, 2) := by decide +kernel
theorem dX6_towns_185 : decode cX6_towns 185 = .ok (.bipush 7, 2) := by decide +kernel
theorem dX6_towns_187 : decode cX6_towns 187 = .ok (.isub, 1) := by decide +kernel
theorem dX6_towns_188 : decode cX6_towns 188 = .ok (.invokevirtual 120, 3) := by decide +kernel
theorem dX6_towns_191 : decode cX6_towns 191 = .ok (.ifCond .eq 7, 3) := by decide +kernel
theorem dX6_towns_194 : decode cX6_towns 194 = .ok (.iconst 0, 1) := by decide +kernel
theorem dX6_towns_195 : decode cX6_towns 195 = .ok (.goto 10, 3) := by decide +kernel
theorem dX6_towns_198 : decode cX6_towns 198 = .ok (.iconst 1, 1) := by decide +kernel
theorem dX6_towns_199 : decode cX6_towns 199 = .ok (.iload 4, 2) := by decide +kernel
theorem dX6_towns_201 : decode cX6_towns 201 = .ok (.bipush 7, 2) := by decide +kernel
theorem dX6_towns_203 : decode cX6_towns 203 = .ok (.isub, 1) := by decide +kernel
theorem dX6_towns_204 : decode cX6_towns 204 = .ok (.ishl, 1) := by decide +kernel
theorem dX6_towns_205 : decode cX6_towns 205 = .ok (.ixor, 1) := by decide +kernel
theorem dX6_towns_206 : decode cX6_towns 206 = .ok (.iastore, 1) := by decide +kernel
theorem dX6_towns_207 : decode cX6_towns 207 = .ok (.goto 10, 3) := by decide +kernel
theorem dX6_towns_210 : decode cX6_towns 210 = .ok (.aload_n 0, 1) := by decide +kernel
theorem dX6_towns_211 : decode cX6_towns 211 = .ok (.getfield 25, 3) := by decide +kernel
theorem dX6_towns_214 : decode cX6_towns 214 = .ok (.invokestatic 142, 3) := by decide +kernel
theorem dX6_towns_217 : decode cX6_towns 217 = .ok (.iload_n 2, 1) := by decide +kernel
theorem dX6_towns_218 : decode cX6_towns 218 = .ok (.aload_n 0, 1) := by decide +kernel
theorem dX6_towns_219 : decode cX6_towns 219 = .ok (.getfield 57, 3) := by decide +kernel
theorem dX6_towns_222 : decode cX6_towns 222 = .ok (.ifCond .le 20, 3) := by decide +kernel
theorem dX6_towns_225 : decode cX6_towns 225 = .ok (.aload_n 0, 1) := by decide +kernel
theorem dX6_towns_226 : decode cX6_towns 226 = .ok (.getfield 25, 3) := by decide +kernel
theorem dX6_towns_229 : decode cX6_towns 229 = .ok (.iconst 0, 1) := by decide +kernel
theorem dX6_towns_230 : decode cX6_towns 230 = .ok (.invokestatic 125, 3) := by decide +kernel
theorem dX6_towns_233 : decode cX6_towns 233 = .ok (.iload 5, 2) := by decide +kernel
theorem dX6_towns_235 : decode cX6_towns 235 = .ok (.if_icmp .eq 7, 3) := by decide +kernel
theorem dX6_towns_238 : decode cX6_towns 238 = .ok (.iconst 1, 1) := by decide +kernel
theorem dX6_towns_239 : decode cX6_towns 239 = .ok (.goto 4, 3) := by decide +kernel
theorem dX6_towns_242 : decode cX6_towns 242 = .ok (.iconst 0, 1) := by decide +kernel
theorem dX6_towns_243 : decode cX6_towns 243 = .ok (.iadd, 1) := by decide +kernel
theorem dX6_towns_244 : decode cX6_towns 244 = .ok (.istore_n 2, 1) := by decide +kernel
theorem dX6_towns_245 : decode cX6_towns 245 = .ok (.iload_n 2, 1) := by decide +kernel
theorem dX6_towns_246 : decode cX6_towns 246 = .ok (.aload_n 0, 1) := by decide +kernel
theorem dX6_towns_247 : decode cX6_towns 247 = .ok (.getfield 57, 3) := by decide +kernel
theorem dX6_towns_250 : decode cX6_towns 250 = .ok (.iconst 1, 1) := by decide +kernel
theorem dX6_towns_251 : decode cX6_towns 251 = .ok (.if_icmp .le 20, 3) := by decide +kernel
theorem dX6_towns_254 : decode cX6_towns 254 = .ok (.aload_n 0, 1) := by decide +kernel
theorem dX6_towns_255 : decode cX6_towns 255 = .ok (.getfield 25, 3) := by decide +kernel
theorem dX6_towns_258 : decode cX6_towns 258 = .ok (.iconst 1, 1) := by decide +kernel
theorem dX6_towns_259 : decode cX6_towns 259 = .ok (.invokestatic 125, 3) := by decide +kernel
theorem dX6_towns_262 : decode cX6_towns 262 = .ok (.iload 6, 2) := by decide +kernel
theorem dX6_towns_264 : decode cX6_towns 264 = .ok (.if_icmp .eq 7, 3) := by decide +kernel
theorem dX6_towns_267 : decode cX6_towns 267 = .ok (.iconst 1, 1) := by decide +kernel
theorem dX6_towns_268 : decode cX6_towns 268 = .ok (.goto 4, 3) := by decide +kernel
theorem dX6_towns_271 : decode cX6_towns 271 = .ok (.iconst 0, 1) := by decide +kernel
theorem dX6_towns_272 : decode cX6_towns 272 = .ok (.iadd, 1) := by decide +kernel
theorem dX6_towns_273 : decode cX6_towns 273 = .ok (.istore_n 2, 1) := by decide +kernel
theorem dX6_towns_274 : decode cX6_towns 274 = .ok (.iload_n 2, 1) := by decide +kernel
theorem dX6_towns_275 : decode cX6_towns 275 = .ok (.aload_n 0, 1) := by decide +kernel
theorem dX6_towns_276 : decode cX6_towns 276 = .ok (.getfield 57, 3) := by decide +kernel
theorem dX6_towns_279 : decode cX6_towns 279 = .ok (.iconst 2, 1) := by decide +kernel
theorem dX6_towns_280 : decode cX6_towns 280 = .ok (.if_icmp .le 20, 3) := by decide +kernel
theorem dX6_towns_283 : decode cX6_towns 283 = .ok (.aload_n 0, 1) := by decide +kernel
theorem dX6_towns_284 : decode cX6_towns 284 = .ok (.getfield 25, 3) := by decide +kernel
theorem dX6_towns_287 : decode cX6_towns 287 = .ok (.iconst 2, 1) := by decide +kernel
theorem dX6_towns_288 : decode cX6_towns 288 = .ok (.invokestatic 125, 3) := by decide +kernel
theorem dX6_towns_291 : decode cX6_towns 291 = .ok (.iload 7, 2) := by decide +kernel
theorem dX6_towns_293 : decode cX6_towns 293 = .ok (.if_icmp .eq 7, 3) := by decide +kernel
theorem dX6_towns_296 : decode cX6_towns 296 = .ok (.iconst 1, 1) := by decide +kernel
theorem dX6_towns_297 : decode cX6_towns 297 = .ok (.goto 4, 3) := by decide +kernel
theorem dX6_towns_300 : decode cX6_towns 300 = .ok (.iconst 0, 1) := by decide +kernel
theorem dX6_towns_301 : decode cX6_towns 301 = .ok (.iadd, 1) := by decide +kernel
theorem dX6_towns_302 : decode cX6_towns 302 = .ok (.istore_n 2, 1) := by decide +kernel
theorem dX6_towns_303 : decode cX6_towns 303 = .ok (.iinc 3 1, 3) := by decide +kernel
theorem dX6_towns_306 : decode cX6_towns 306 = .ok (.goto (-278), 3) := by decide +kernel
theorem dX6_towns_309 : decode cX6_towns 309 = .ok (.iload_n 2, 1) := by decide +kernel
theorem dX6_towns_310 : decode cX6_towns 310 = .ok (.ireturn, 1) := by decide +kernel
set_option maxRecDepth 20000 in
theorem ggX6_keep_X6_in : GoodIn wsX6_keep wsX6_in := goodIn_r _ [8] (by decide +kernel) (by decide +kernel)
set_option maxRecDepth 20000 in
theorem gX6_keep_X6_in : GoodIn wsX6_keep (va_wsS RX6 60 yX6_in wsX6_in) := goodIn_app (goodIn_of _ (by decide +kernel)) ggX6_keep_X6_in
theorem dX6_keep_0 : decode cX6_keep 0 = .ok (.aload_n 0, 1) := by decide +kernel
theorem dX6_keep_1 : decode cX6_keep 1 = .ok (.iconst 0, 1) := by decide +kernel
theorem dX6_keep_2 : decode cX6_keep 2 = .ok (.putfield 53, 3) := by decide +kernel
theorem dX6_keep_5 : decode cX6_keep 5 = .ok (.iload_n 1, 1) := by decide +kernel
theorem dX6_keep_6 : decode cX6_keep 6 = .ok (.i2l, 1) := by decide +kernel
theorem dX6_keep_7 : decode cX6_keep 7 = .ok (.lconst 0, 1) := by decide +kernel
theorem dX6_keep_8 : decode cX6_keep 8 = .ok (.lconst 1, 1) := by decide +kernel
theorem dX6_keep_9 : decode cX6_keep 9 = .ok (.invokestatic 60, 3) := by decide +kernel
theorem dX6_keep_12 : decode cX6_keep 12 = .ok (.ifCond .ne 5, 3) := by decide +kernel
theorem dX6_keep_15 : decode cX6_keep 15 = .ok (.iconst (-1), 1) := by decide +kernel
theorem dX6_keep_16 : decode cX6_keep 16 = .ok (.ireturn, 1) := by decide +kernel
theorem dX6_keep_17 : decode cX6_keep 17 = .ok (.aload_n 0, 1) := by decide +kernel
theorem dX6_keep_18 : decode cX6_keep 18 = .ok (.getfield 34, 3) := by decide +kernel
theorem dX6_keep_21 : decode cX6_keep 21 = .ok (.iload_n 1, 1) := by decide +kernel
theorem dX6_keep_22 : decode cX6_keep 22 = .ok (.iconst 1, 1) := by decide +kernel
theorem dX6_keep_23 : decode cX6_keep 23 = .ok (.bastore, 1) := by decide +kernel
theorem dX6_keep_24 : decode cX6_keep 24 = .ok (.iconst 0, 1) := by decide +kernel
theorem dX6_keep_25 : decode cX6_keep 25 = .ok (.istore_n 2, 1) := by decide +kernel
theorem dX6_keep_26 : decode cX6_keep 26 = .ok (.iload_n 2, 1) := by decide +kernel
theorem dX6_keep_27 : decode cX6_keep 27 = .ok (.bipush 33, 2) := by decide +kernel
theorem dX6_keep_29 : decode cX6_keep 29 = .ok (.if_icmp .ge 26, 3) := by decide +kernel
theorem dX6_keep_32 : decode cX6_keep 32 = .ok (.aload_n 0, 1) := by decide +kernel
theorem dX6_keep_33 : decode cX6_keep 33 = .ok (.getfield 31, 3) := by decide +kernel
theorem dX6_keep_36 : decode cX6_keep 36 = .ok (.bipush 33, 2) := by decide +kernel
theorem dX6_keep_38 : decode cX6_keep 38 = .ok (.iload_n 1, 1) := by decide +kernel
theorem dX6_keep_39 : decode cX6_keep 39 = .ok (.imul, 1) := by decide +kernel
theorem dX6_keep_40 : decode cX6_keep 40 = .ok (.iload_n 2, 1) := by decide +kernel
theorem dX6_keep_41 : decode cX6_keep 41 = .ok (.iadd, 1) := by decide +kernel
theorem dX6_keep_42 : decode cX6_keep 42 = .ok (.aload_n 0, 1) := by decide +kernel
theorem dX6_keep_43 : decode cX6_keep 43 = .ok (.getfield 22, 3) := by decide +kernel
theorem dX6_keep_46 : decode cX6_keep 46 = .ok (.iload_n 2, 1) := by decide +kernel
theorem dX6_keep_47 : decode cX6_keep 47 = .ok (.iaload, 1) := by decide +kernel
theorem dX6_keep_48 : decode cX6_keep 48 = .ok (.iastore, 1) := by decide +kernel
theorem dX6_keep_49 : decode cX6_keep 49 = .ok (.iinc 2 1, 3) := by decide +kernel
theorem dX6_keep_52 : decode cX6_keep 52 = .ok (.goto (-26), 3) := by decide +kernel
theorem dX6_keep_55 : decode cX6_keep 55 = .ok (.aload_n 0, 1) := by decide +kernel
theorem dX6_keep_56 : decode cX6_keep 56 = .ok (.getfield 22, 3) := by decide +kernel
theorem dX6_keep_59 : decode cX6_keep 59 = .ok (.bipush 24, 2) := by decide +kernel
theorem dX6_keep_61 : decode cX6_keep 61 = .ok (.iaload, 1) := by decide +kernel
theorem dX6_keep_62 : decode cX6_keep 62 = .ok (.ireturn, 1) := by decide +kernel
set_option maxRecDepth 20000 in
theorem ggX6_again_X6_in : GoodIn wsX6_again wsX6_in := goodIn_r _ [9] (by decide +kernel) (by decide +kernel)
set_option maxRecDepth 20000 in
theorem gX6_again_X6_in : GoodIn wsX6_again (va_wsS RX6 60 yX6_in wsX6_in) := goodIn_app (goodIn_of _ (by decide +kernel)) ggX6_again_X6_in
theorem dX6_again_0 : decode cX6_again 0 = .ok (.aload_n 0, 1) := by decide +kernel
theorem dX6_again_1 : decode cX6_again 1 = .ok (.iconst 0, 1) := by decide +kernel
theorem dX6_again_2 : decode cX6_again 2 = .ok (.putfield 53, 3) := by decide +kernel
theorem dX6_again_5 : decode cX6_again 5 = .ok (.iload_n 1, 1) := by decide +kernel
theorem dX6_again_6 : decode cX6_again 6 = .ok (.i2l, 1) := by decide +kernel
theorem dX6_again_7 : decode cX6_again 7 = .ok (.lconst 0, 1) := by decide +kernel
theorem dX6_again_8 : decode cX6_again 8 = .ok (.lconst 1, 1) := by decide +kernel
theorem dX6_again_9 : decode cX6_again 9 = .ok (.invokestatic 60, 3) := by decide +kernel
theorem dX6_again_12 : decode cX6_again 12 = .ok (.ifCond .ne 5, 3) := by decide +kernel
theorem dX6_again_15 : decode cX6_again 15 = .ok (.iconst (-1), 1) := by decide +kernel
theorem dX6_again_16 : decode cX6_again 16 = .ok (.ireturn, 1) := by decide +kernel
theorem dX6_again_17 : decode cX6_again 17 = .ok (.aload_n 0, 1) := by decide +kernel
theorem dX6_again_18 : decode cX6_again 18 = .ok (.getfield 34, 3) := by decide +kernel
theorem dX6_again_21 : decode cX6_again 21 = .ok (.iload_n 1, 1) := by decide +kernel
theorem dX6_again_22 : decode cX6_again 22 = .ok (.baload, 1) := by decide +kernel
theorem dX6_again_23 : decode cX6_again 23 = .ok (.ifCond .ne 6, 3) := by decide +kernel
theorem dX6_again_26 : decode cX6_again 26 = .ok (.bipush (-3), 2) := by decide +kernel
theorem dX6_again_28 : decode cX6_again 28 = .ok (.ireturn, 1) := by decide +kernel
theorem dX6_again_29 : decode cX6_again 29 = .ok (.iconst 0, 1) := by decide +kernel
theorem dX6_again_30 : decode cX6_again 30 = .ok (.istore_n 2, 1) := by decide +kernel
theorem dX6_again_31 : decode cX6_again 31 = .ok (.iload_n 2, 1) := by decide +kernel
theorem dX6_again_32 : decode cX6_again 32 = .ok (.bipush 33, 2) := by decide +kernel
theorem dX6_again_34 : decode cX6_again 34 = .ok (.if_icmp .ge 26, 3) := by decide +kernel
theorem dX6_again_37 : decode cX6_again 37 = .ok (.aload_n 0, 1) := by decide +kernel
theorem dX6_again_38 : decode cX6_again 38 = .ok (.getfield 22, 3) := by decide +kernel
theorem dX6_again_41 : decode cX6_again 41 = .ok (.iload_n 2, 1) := by decide +kernel
theorem dX6_again_42 : decode cX6_again 42 = .ok (.aload_n 0, 1) := by decide +kernel
theorem dX6_again_43 : decode cX6_again 43 = .ok (.getfield 31, 3) := by decide +kernel
theorem dX6_again_46 : decode cX6_again 46 = .ok (.bipush 33, 2) := by decide +kernel
theorem dX6_again_48 : decode cX6_again 48 = .ok (.iload_n 1, 1) := by decide +kernel
theorem dX6_again_49 : decode cX6_again 49 = .ok (.imul, 1) := by decide +kernel
theorem dX6_again_50 : decode cX6_again 50 = .ok (.iload_n 2, 1) := by decide +kernel
theorem dX6_again_51 : decode cX6_again 51 = .ok (.iadd, 1) := by decide +kernel
theorem dX6_again_52 : decode cX6_again 52 = .ok (.iaload, 1) := by decide +kernel
theorem dX6_again_53 : decode cX6_again 53 = .ok (.iastore, 1) := by decide +kernel
theorem dX6_again_54 : decode cX6_again 54 = .ok (.iinc 2 1, 3) := by decide +kernel
theorem dX6_again_57 : decode cX6_again 57 = .ok (.goto (-26), 3) := by decide +kernel
theorem dX6_again_60 : decode cX6_again 60 = .ok (.aload_n 0, 1) := by decide +kernel
theorem dX6_again_61 : decode cX6_again 61 = .ok (.iconst 0, 1) := by decide +kernel
theorem dX6_again_62 : decode cX6_again 62 = .ok (.putfield 94, 3) := by decide +kernel
theorem dX6_again_65 : decode cX6_again 65 = .ok (.aload_n 0, 1) := by decide +kernel
theorem dX6_again_66 : decode cX6_again 66 = .ok (.getfield 22, 3) := by decide +kernel
theorem dX6_again_69 : decode cX6_again 69 = .ok (.bipush 24, 2) := by decide +kernel
theorem dX6_again_71 : decode cX6_again 71 = .ok (.iaload, 1) := by decide +kernel
theorem dX6_again_72 : decode cX6_again 72 = .ok (.ireturn, 1) := by decide +kernel
theorem dJ6_bitCount_0f7a4_0 : decode cJ6_bitCount_0f7a4 0 = .ok (.iload_n 0, 1) := by decide +kernel
theorem dJ6_bitCount_0f7a4_1 : decode cJ6_bitCount_0f7a4 1 = .ok (.iload_n 0, 1) := by decide +kernel
theorem dJ6_bitCount_0f7a4_2 : decode cJ6_bitCount_0f7a4 2 = .ok (.iconst 1, 1) := by decide +kernel
theorem dJ6_bitCount_0f7a4_3 : decode cJ6_bitCount_0f7a4 3 = .ok (.iushr, 1) := by decide +kernel
theorem dJ6_bitCount_0f7a4_4 : decode cJ6_bitCount_0f7a4 4 = .ok (.ldc_w 265, 3) := by decide +kernel
theorem dJ6_bitCount_0f7a4_7 : decode cJ6_bitCount_0f7a4 7 = .ok (.iand, 1) := by decide +kernel
theorem dJ6_bitCount_0f7a4_8 : decode cJ6_bitCount_0f7a4 8 = .ok (.isub, 1) := by decide +kernel
theorem dJ6_bitCount_0f7a4_9 : decode cJ6_bitCount_0f7a4 9 = .ok (.istore_n 0, 1) := by decide +kernel
theorem dJ6_bitCount_0f7a4_10 : decode cJ6_bitCount_0f7a4 10 = .ok (.iload_n 0, 1) := by decide +kernel
theorem dJ6_bitCount_0f7a4_11 : decode cJ6_bitCount_0f7a4 11 = .ok (.ldc_w 266, 3) := by decide +kernel
theorem dJ6_bitCount_0f7a4_14 : decode cJ6_bitCount_0f7a4 14 = .ok (.iand, 1) := by decide +kernel
theorem dJ6_bitCount_0f7a4_15 : decode cJ6_bitCount_0f7a4 15 = .ok (.iload_n 0, 1) := by decide +kernel
theorem dJ6_bitCount_0f7a4_16 : decode cJ6_bitCount_0f7a4 16 = .ok (.iconst 2, 1) := by decide +kernel
theorem dJ6_bitCount_0f7a4_17 : decode cJ6_bitCount_0f7a4 17 = .ok (.iushr, 1) := by decide +kernel
theorem dJ6_bitCount_0f7a4_18 : decode cJ6_bitCount_0f7a4 18 = .ok (.ldc_w 266, 3) := by decide +kernel
theorem dJ6_bitCount_0f7a4_21 : decode cJ6_bitCount_0f7a4 21 = .ok (.iand, 1) := by decide +kernel
theorem dJ6_bitCount_0f7a4_22 : decode cJ6_bitCount_0f7a4 22 = .ok (.iadd, 1) := by decide +kernel
theorem dJ6_bitCount_0f7a4_23 : decode cJ6_bitCount_0f7a4 23 = .ok (.istore_n 0, 1) := by decide +kernel
theorem dJ6_bitCount_0f7a4_24 : decode cJ6_bitCount_0f7a4 24 = .ok (.iload_n 0, 1) := by decide +kernel
theorem dJ6_bitCount_0f7a4_25 : decode cJ6_bitCount_0f7a4 25 = .ok (.iload_n 0, 1) := by decide +kernel
theorem dJ6_bitCount_0f7a4_26 : decode cJ6_bitCount_0f7a4 26 = .ok (.iconst 4, 1) := by decide +kernel
theorem dJ6_bitCount_0f7a4_27 : decode cJ6_bitCount_0f7a4 27 = .ok (.iushr, 1) := by decide +kernel
theorem dJ6_bitCount_0f7a4_28 : decode cJ6_bitCount_0f7a4 28 = .ok (.iadd, 1) := by decide +kernel
theorem dJ6_bitCount_0f7a4_29 : decode cJ6_bitCount_0f7a4 29 = .ok (.ldc_w 267, 3) := by decide +kernel
theorem dJ6_bitCount_0f7a4_32 : decode cJ6_bitCount_0f7a4 32 = .ok (.iand, 1) := by decide +kernel
theorem dJ6_bitCount_0f7a4_33 : decode cJ6_bitCount_0f7a4 33 = .ok (.istore_n 0, 1) := by decide +kernel
theorem dJ6_bitCount_0f7a4_34 : decode cJ6_bitCount_0f7a4 34 = .ok (.iload_n 0, 1) := by decide +kernel
theorem dJ6_bitCount_0f7a4_35 : decode cJ6_bitCount_0f7a4 35 = .ok (.iload_n 0, 1) := by decide +kernel
theorem dJ6_bitCount_0f7a4_36 : decode cJ6_bitCount_0f7a4 36 = .ok (.bipush 8, 2) := by decide +kernel
theorem dJ6_bitCount_0f7a4_38 : decode cJ6_bitCount_0f7a4 38 = .ok (.iushr, 1) := by decide +kernel
theorem dJ6_bitCount_0f7a4_39 : decode cJ6_bitCount_0f7a4 39 = .ok (.iadd, 1) := by decide +kernel
theorem dJ6_bitCount_0f7a4_40 : decode cJ6_bitCount_0f7a4 40 = .ok (.istore_n 0, 1) := by decide +kernel
theorem dJ6_bitCount_0f7a4_41 : decode cJ6_bitCount_0f7a4 41 = .ok (.iload_n 0, 1) := by decide +kernel
theorem dJ6_bitCount_0f7a4_42 : decode cJ6_bitCount_0f7a4 42 = .ok (.iload_n 0, 1) := by decide +kernel
theorem dJ6_bitCount_0f7a4_43 : decode cJ6_bitCount_0f7a4 43 = .ok (.bipush 16, 2) := by decide +kernel
theorem dJ6_bitCount_0f7a4_45 : decode cJ6_bitCount_0f7a4 45 = .ok (.iushr, 1) := by decide +kernel
theorem dJ6_bitCount_0f7a4_46 : decode cJ6_bitCount_0f7a4 46 = .ok (.iadd, 1) := by decide +kernel
theorem dJ6_bitCount_0f7a4_47 : decode cJ6_bitCount_0f7a4 47 = .ok (.istore_n 0, 1) := by decide +kernel
theorem dJ6_bitCount_0f7a4_48 : decode cJ6_bitCount_0f7a4 48 = .ok (.iload_n 0, 1) := by decide +kernel
theorem dJ6_bitCount_0f7a4_49 : decode cJ6_bitCount_0f7a4 49 = .ok (.bipush 63, 2) := by decide +kernel
theorem dJ6_bitCount_0f7a4_51 : decode cJ6_bitCount_0f7a4 51 = .ok (.iand, 1) := by decide +kernel
theorem dJ6_bitCount_0f7a4_52 : decode cJ6_bitCount_0f7a4 52 = .ok (.ireturn, 1) := by decide +kernel
theorem dJ9_max_7cf53_0 : decode cJ9_max_7cf53 0 = .ok (.iload_n 0, 1) := by decide +kernel
theorem dJ9_max_7cf53_1 : decode cJ9_max_7cf53 1 = .ok (.iload_n 1, 1) := by decide +kernel
theorem dJ9_max_7cf53_2 : decode cJ9_max_7cf53 2 = .ok (.if_icmp .lt 7, 3) := by decide +kernel
theorem dJ9_max_7cf53_5 : decode cJ9_max_7cf53 5 = .ok (.iload_n 0, 1) := by decide +kernel
theorem dJ9_max_7cf53_6 : decode cJ9_max_7cf53 6 = .ok (.goto 4, 3) := by decide +kernel
theorem dJ9_max_7cf53_9 : decode cJ9_max_7cf53 9 = .ok (.iload_n 1, 1) := by decide +kernel
theorem dJ9_max_7cf53_10 : decode cJ9_max_7cf53 10 = .ok (.ireturn, 1) := by decide +kernel
