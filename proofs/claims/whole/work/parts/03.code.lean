set_option maxRecDepth 20000 in
theorem ggX0_init_X1_init : GoodIn wsX0_init wsX1_init := goodIn_r _ [12, 13, 2, 3, 14, 15, 16, 17, 18, 19, 20] (by decide +kernel) (by decide +kernel)
set_option maxRecDepth 20000 in
theorem gX0_init_X1_init : GoodIn wsX0_init (wsX1_init) := ggX0_init_X1_init
theorem dX0_init_0 : decode cX0_init 0 = .ok (.aload_n 0, 1) := by decide +kernel
theorem dX0_init_1 : decode cX0_init 1 = .ok (.invokespecial 3, 3) := by decide +kernel
theorem dX0_init_4 : decode cX0_init 4 = .ok (.aload_n 0, 1) := by decide +kernel
theorem dX0_init_5 : decode cX0_init 5 = .ok (.new 9, 3) := by decide +kernel
theorem dX0_init_8 : decode cX0_init 8 = .ok (.dup, 1) := by decide +kernel
theorem dX0_init_9 : decode cX0_init 9 = .ok (.bipush 14, 2) := by decide +kernel
theorem dX0_init_11 : decode cX0_init 11 = .ok (.invokespecial 11, 3) := by decide +kernel
theorem dX0_init_14 : decode cX0_init 14 = .ok (.putfield 14, 3) := by decide +kernel
theorem dX0_init_17 : decode cX0_init 17 = .ok (.aload_n 0, 1) := by decide +kernel
theorem dX0_init_18 : decode cX0_init 18 = .ok (.new 9, 3) := by decide +kernel
theorem dX0_init_21 : decode cX0_init 21 = .ok (.dup, 1) := by decide +kernel
theorem dX0_init_22 : decode cX0_init 22 = .ok (.bipush 14, 2) := by decide +kernel
theorem dX0_init_24 : decode cX0_init 24 = .ok (.invokespecial 11, 3) := by decide +kernel
theorem dX0_init_27 : decode cX0_init 27 = .ok (.putfield 20, 3) := by decide +kernel
theorem dX0_init_30 : decode cX0_init 30 = .ok (.aload_n 0, 1) := by decide +kernel
theorem dX0_init_31 : decode cX0_init 31 = .ok (.new 9, 3) := by decide +kernel
theorem dX0_init_34 : decode cX0_init 34 = .ok (.dup, 1) := by decide +kernel
theorem dX0_init_35 : decode cX0_init 35 = .ok (.bipush 14, 2) := by decide +kernel
theorem dX0_init_37 : decode cX0_init 37 = .ok (.invokespecial 11, 3) := by decide +kernel
theorem dX0_init_40 : decode cX0_init 40 = .ok (.putfield 23, 3) := by decide +kernel
theorem dX0_init_43 : decode cX0_init 43 = .ok (.return_, 1) := by decide +kernel
set_option maxRecDepth 20000 in
theorem ggX0_add_X1_dropFirst : GoodIn wsX0_add wsX1_dropFirst := goodIn_r _ [9, 10, 19] (by decide +kernel) (by decide +kernel)
set_option maxRecDepth 20000 in
theorem gX0_add_X1_dropFirst : GoodIn wsX0_add (wsV RX0 30 RX1 yX1_dropFirst wsX1_dropFirst) := goodIn_app (goodIn_of _ (by decide +kernel)) ggX0_add_X1_dropFirst
set_option maxRecDepth 20000 in
theorem ggX0_add_X1_set : GoodIn wsX0_add wsX1_set := goodIn_r _ [14, 10, 19] (by decide +kernel) (by decide +kernel)
set_option maxRecDepth 20000 in
theorem gX0_add_X1_set : GoodIn wsX0_add (wsV RX0 33 RX1 yX1_set wsX1_set) := goodIn_app (goodIn_of _ (by decide +kernel)) ggX0_add_X1_set
theorem dX0_add_0 : decode cX0_add 0 = .ok (.aload_n 0, 1) := by decide +kernel
theorem dX0_add_1 : decode cX0_add 1 = .ok (.getfield 26, 3) := by decide +kernel
theorem dX0_add_4 : decode cX0_add 4 = .ok (.bipush 14, 2) := by decide +kernel
theorem dX0_add_6 : decode cX0_add 6 = .ok (.if_icmp .lt 34, 3) := by decide +kernel
theorem dX0_add_9 : decode cX0_add 9 = .ok (.aload_n 0, 1) := by decide +kernel
theorem dX0_add_10 : decode cX0_add 10 = .ok (.getfield 14, 3) := by decide +kernel
theorem dX0_add_13 : decode cX0_add 13 = .ok (.invokevirtual 30, 3) := by decide +kernel
theorem dX0_add_16 : decode cX0_add 16 = .ok (.aload_n 0, 1) := by decide +kernel
theorem dX0_add_17 : decode cX0_add 17 = .ok (.getfield 20, 3) := by decide +kernel
theorem dX0_add_20 : decode cX0_add 20 = .ok (.invokevirtual 30, 3) := by decide +kernel
theorem dX0_add_23 : decode cX0_add 23 = .ok (.aload_n 0, 1) := by decide +kernel
theorem dX0_add_24 : decode cX0_add 24 = .ok (.getfield 23, 3) := by decide +kernel
theorem dX0_add_27 : decode cX0_add 27 = .ok (.invokevirtual 30, 3) := by decide +kernel
theorem dX0_add_30 : decode cX0_add 30 = .ok (.aload_n 0, 1) := by decide +kernel
theorem dX0_add_31 : decode cX0_add 31 = .ok (.dup, 1) := by decide +kernel
theorem dX0_add_32 : decode cX0_add 32 = .ok (.getfield 26, 3) := by decide +kernel
theorem dX0_add_35 : decode cX0_add 35 = .ok (.iconst 1, 1) := by decide +kernel
theorem dX0_add_36 : decode cX0_add 36 = .ok (.isub, 1) := by decide +kernel
theorem dX0_add_37 : decode cX0_add 37 = .ok (.putfield 26, 3) := by decide +kernel
theorem dX0_add_40 : decode cX0_add 40 = .ok (.aload_n 0, 1) := by decide +kernel
theorem dX0_add_41 : decode cX0_add 41 = .ok (.getfield 14, 3) := by decide +kernel
theorem dX0_add_44 : decode cX0_add 44 = .ok (.aload_n 0, 1) := by decide +kernel
theorem dX0_add_45 : decode cX0_add 45 = .ok (.getfield 26, 3) := by decide +kernel
theorem dX0_add_48 : decode cX0_add 48 = .ok (.iload_n 1, 1) := by decide +kernel
theorem dX0_add_49 : decode cX0_add 49 = .ok (.invokevirtual 33, 3) := by decide +kernel
theorem dX0_add_52 : decode cX0_add 52 = .ok (.aload_n 0, 1) := by decide +kernel
theorem dX0_add_53 : decode cX0_add 53 = .ok (.getfield 20, 3) := by decide +kernel
theorem dX0_add_56 : decode cX0_add 56 = .ok (.aload_n 0, 1) := by decide +kernel
theorem dX0_add_57 : decode cX0_add 57 = .ok (.getfield 26, 3) := by decide +kernel
theorem dX0_add_60 : decode cX0_add 60 = .ok (.iload_n 2, 1) := by decide +kernel
theorem dX0_add_61 : decode cX0_add 61 = .ok (.invokevirtual 33, 3) := by decide +kernel
theorem dX0_add_64 : decode cX0_add 64 = .ok (.aload_n 0, 1) := by decide +kernel
theorem dX0_add_65 : decode cX0_add 65 = .ok (.getfield 23, 3) := by decide +kernel
theorem dX0_add_68 : decode cX0_add 68 = .ok (.aload_n 0, 1) := by decide +kernel
theorem dX0_add_69 : decode cX0_add 69 = .ok (.getfield 26, 3) := by decide +kernel
theorem dX0_add_72 : decode cX0_add 72 = .ok (.iload_n 3, 1) := by decide +kernel
theorem dX0_add_73 : decode cX0_add 73 = .ok (.invokevirtual 33, 3) := by decide +kernel
theorem dX0_add_76 : decode cX0_add 76 = .ok (.aload_n 0, 1) := by decide +kernel
theorem dX0_add_77 : decode cX0_add 77 = .ok (.dup, 1) := by decide +kernel
theorem dX0_add_78 : decode cX0_add 78 = .ok (.getfield 26, 3) := by decide +kernel
theorem dX0_add_81 : decode cX0_add 81 = .ok (.iconst 1, 1) := by decide +kernel
theorem dX0_add_82 : decode cX0_add 82 = .ok (.iadd, 1) := by decide +kernel
theorem dX0_add_83 : decode cX0_add 83 = .ok (.putfield 26, 3) := by decide +kernel
theorem dX0_add_86 : decode cX0_add 86 = .ok (.return_, 1) := by decide +kernel
set_option maxRecDepth 20000 in
theorem ggX0_takeLastBack_X1_get : GoodIn wsX0_takeLastBack wsX1_get := goodIn_r _ [9, 10, 75] (by decide +kernel) (by decide +kernel)
set_option maxRecDepth 20000 in
theorem gX0_takeLastBack_X1_get : GoodIn wsX0_takeLastBack (wsV RX0 37 RX1 yX1_get wsX1_get) := goodIn_app (goodIn_of _ (by decide +kernel)) ggX0_takeLastBack_X1_get
set_option maxRecDepth 20000 in
theorem ggX0_takeLastBack_X4_dropLastChild : GoodIn wsX0_takeLastBack wsX4_dropLastChild := goodIn_r _ [15, 16, 17, 18, 19, 20, 64, 65, 66, 67, 68, 69, 70, 71, 72, 73, 74] (by decide +kernel) (by decide +kernel)
set_option maxRecDepth 20000 in
theorem gX0_takeLastBack_X4_dropLastChild : GoodIn wsX0_takeLastBack (wsV RX0 41 RX4 yX4_dropLastChild wsX4_dropLastChild) := goodIn_app (goodIn_of _ (by decide +kernel)) ggX0_takeLastBack_X4_dropLastChild
set_option maxRecDepth 20000 in
theorem ggX0_takeLastBack_X4_flipLife : GoodIn wsX0_takeLastBack wsX4_flipLife := goodIn_r _ [24, 17, 18, 19, 20, 64, 65, 66, 67, 68, 69, 70, 71, 72, 73, 74] (by decide +kernel) (by decide +kernel)
set_option maxRecDepth 20000 in
theorem gX0_takeLastBack_X4_flipLife : GoodIn wsX0_takeLastBack (wsV RX0 46 RX4 yX4_flipLife wsX4_flipLife) := goodIn_app (goodIn_of _ (by decide +kernel)) ggX0_takeLastBack_X4_flipLife
set_option maxRecDepth 20000 in
theorem ggX0_takeLastBack_X1_set : GoodIn wsX0_takeLastBack wsX1_set := goodIn_r _ [28, 10, 75] (by decide +kernel) (by decide +kernel)
set_option maxRecDepth 20000 in
theorem gX0_takeLastBack_X1_set : GoodIn wsX0_takeLastBack (wsV RX0 33 RX1 yX1_set wsX1_set) := goodIn_app (goodIn_of _ (by decide +kernel)) ggX0_takeLastBack_X1_set
set_option maxRecDepth 20000 in
theorem ggX0_takeLastBack_X4_flipSide : GoodIn wsX0_takeLastBack wsX4_flipSide := goodIn_r _ [32, 33, 18, 19, 20, 64, 65, 66, 67, 68, 69, 70, 71, 72, 73, 74] (by decide +kernel) (by decide +kernel)
set_option maxRecDepth 20000 in
theorem gX0_takeLastBack_X4_flipSide : GoodIn wsX0_takeLastBack (wsV RX0 52 RX4 yX4_flipSide wsX4_flipSide) := goodIn_app (goodIn_of _ (by decide +kernel)) ggX0_takeLastBack_X4_flipSide
set_option maxRecDepth 20000 in
theorem ggX0_takeLastBack_X4_takeBackFrom : GoodIn wsX0_takeLastBack wsX4_takeBackFrom := goodIn_r _ [37, 38, 18, 19, 20, 39, 40, 41, 14, 42, 43, 44, 6, 7, 8, 9, 10, 45, 46, 47, 48, 49, 50, 51, 52, 53, 54, 55, 16, 56, 57, 58, 59, 26, 27, 28, 64, 65, 66, 67, 68, 69, 70, 71, 72, 73, 74, 75] (by decide +kernel) (by decide +kernel)
set_option maxRecDepth 20000 in
theorem gX0_takeLastBack_X4_takeBackFrom : GoodIn wsX0_takeLastBack (wsV RX0 55 RX4 yX4_takeBackFrom wsX4_takeBackFrom) := goodIn_app (goodIn_of _ (by decide +kernel)) ggX0_takeLastBack_X4_takeBackFrom
theorem dX0_takeLastBack_0 : decode cX0_takeLastBack 0 = .ok (.aload_n 0, 1) := by decide +kernel
theorem dX0_takeLastBack_1 : decode cX0_takeLastBack 1 = .ok (.getfield 26, 3) := by decide +kernel
theorem dX0_takeLastBack_4 : decode cX0_takeLastBack 4 = .ok (.ifCond .gt 4, 3) := by decide +kernel
theorem dX0_takeLastBack_7 : decode cX0_takeLastBack 7 = .ok (.return_, 1) := by decide +kernel
theorem dX0_takeLastBack_8 : decode cX0_takeLastBack 8 = .ok (.aload_n 0, 1) := by decide +kernel
theorem dX0_takeLastBack_9 : decode cX0_takeLastBack 9 = .ok (.dup, 1) := by decide +kernel
theorem dX0_takeLastBack_10 : decode cX0_takeLastBack 10 = .ok (.getfield 26, 3) := by decide +kernel
theorem dX0_takeLastBack_13 : decode cX0_takeLastBack 13 = .ok (.iconst 1, 1) := by decide +kernel
theorem dX0_takeLastBack_14 : decode cX0_takeLastBack 14 = .ok (.isub, 1) := by decide +kernel
theorem dX0_takeLastBack_15 : decode cX0_takeLastBack 15 = .ok (.putfield 26, 3) := by decide +kernel
theorem dX0_takeLastBack_18 : decode cX0_takeLastBack 18 = .ok (.aload_n 0, 1) := by decide +kernel
theorem dX0_takeLastBack_19 : decode cX0_takeLastBack 19 = .ok (.getfield 20, 3) := by decide +kernel
theorem dX0_takeLastBack_22 : decode cX0_takeLastBack 22 = .ok (.aload_n 0, 1) := by decide +kernel
theorem dX0_takeLastBack_23 : decode cX0_takeLastBack 23 = .ok (.getfield 26, 3) := by decide +kernel
theorem dX0_takeLastBack_26 : decode cX0_takeLastBack 26 = .ok (.invokevirtual 37, 3) := by decide +kernel
theorem dX0_takeLastBack_29 : decode cX0_takeLastBack 29 = .ok (.istore_n 2, 1) := by decide +kernel
theorem dX0_takeLastBack_30 : decode cX0_takeLastBack 30 = .ok (.aload_n 0, 1) := by decide +kernel
theorem dX0_takeLastBack_31 : decode cX0_takeLastBack 31 = .ok (.getfield 23, 3) := by decide +kernel
theorem dX0_takeLastBack_34 : decode cX0_takeLastBack 34 = .ok (.aload_n 0, 1) := by decide +kernel
theorem dX0_takeLastBack_35 : decode cX0_takeLastBack 35 = .ok (.getfield 26, 3) := by decide +kernel
theorem dX0_takeLastBack_38 : decode cX0_takeLastBack 38 = .ok (.invokevirtual 37, 3) := by decide +kernel
theorem dX0_takeLastBack_41 : decode cX0_takeLastBack 41 = .ok (.istore_n 3, 1) := by decide +kernel
theorem dX0_takeLastBack_42 : decode cX0_takeLastBack 42 = .ok (.aload_n 0, 1) := by decide +kernel
theorem dX0_takeLastBack_43 : decode cX0_takeLastBack 43 = .ok (.getfield 14, 3) := by decide +kernel
theorem dX0_takeLastBack_46 : decode cX0_takeLastBack 46 = .ok (.aload_n 0, 1) := by decide +kernel
theorem dX0_takeLastBack_47 : decode cX0_takeLastBack 47 = .ok (.getfield 26, 3) := by decide +kernel
theorem dX0_takeLastBack_50 : decode cX0_takeLastBack 50 = .ok (.invokevirtual 37, 3) := by decide +kernel
theorem dX0_takeLastBack_53 : decode cX0_takeLastBack 53 = .ok (.tableswitch 79 0 4 #[35, 42, 50, 62, 70], 35) := by decide +kernel
theorem dX0_takeLastBack_88 : decode cX0_takeLastBack 88 = .ok (.aload_n 1, 1) := by decide +kernel
theorem dX0_takeLastBack_89 : decode cX0_takeLastBack 89 = .ok (.invokevirtual 41, 3) := by decide +kernel
theorem dX0_takeLastBack_92 : decode cX0_takeLastBack 92 = .ok (.goto 50, 3) := by decide +kernel
theorem dX0_takeLastBack_95 : decode cX0_takeLastBack 95 = .ok (.aload_n 1, 1) := by decide +kernel
theorem dX0_takeLastBack_96 : decode cX0_takeLastBack 96 = .ok (.iload_n 2, 1) := by decide +kernel
theorem dX0_takeLastBack_97 : decode cX0_takeLastBack 97 = .ok (.invokevirtual 46, 3) := by decide +kernel
theorem dX0_takeLastBack_100 : decode cX0_takeLastBack 100 = .ok (.goto 42, 3) := by decide +kernel
theorem dX0_takeLastBack_103 : decode cX0_takeLastBack 103 = .ok (.aload_n 1, 1) := by decide +kernel
theorem dX0_takeLastBack_104 : decode cX0_takeLastBack 104 = .ok (.getfield 49, 3) := by decide +kernel
theorem dX0_takeLastBack_107 : decode cX0_takeLastBack 107 = .ok (.iload_n 2, 1) := by decide +kernel
theorem dX0_takeLastBack_108 : decode cX0_takeLastBack 108 = .ok (.iload_n 3, 1) := by decide +kernel
theorem dX0_takeLastBack_109 : decode cX0_takeLastBack 109 = .ok (.invokevirtual 33, 3) := by decide +kernel
theorem dX0_takeLastBack_112 : decode cX0_takeLastBack 112 = .ok (.goto 30, 3) := by decide +kernel
theorem dX0_takeLastBack_115 : decode cX0_takeLastBack 115 = .ok (.aload_n 1, 1) := by decide +kernel
theorem dX0_takeLastBack_116 : decode cX0_takeLastBack 116 = .ok (.iload_n 2, 1) := by decide +kernel
theorem dX0_takeLastBack_117 : decode cX0_takeLastBack 117 = .ok (.invokevirtual 52, 3) := by decide +kernel
theorem dX0_takeLastBack_120 : decode cX0_takeLastBack 120 = .ok (.goto 22, 3) := by decide +kernel
theorem dX0_takeLastBack_123 : decode cX0_takeLastBack 123 = .ok (.aload_n 1, 1) := by decide +kernel
theorem dX0_takeLastBack_124 : decode cX0_takeLastBack 124 = .ok (.iload_n 2, 1) := by decide +kernel
theorem dX0_takeLastBack_125 : decode cX0_takeLastBack 125 = .ok (.iload_n 3, 1) := by decide +kernel
theorem dX0_takeLastBack_126 : decode cX0_takeLastBack 126 = .ok (.invokevirtual 55, 3) := by decide +kernel
theorem dX0_takeLastBack_129 : decode cX0_takeLastBack 129 = .ok (.goto 13, 3) := by decide +kernel
theorem dX0_takeLastBack_132 : decode cX0_takeLastBack 132 = .ok (.aload_n 1, 1) := by decide +kernel
theorem dX0_takeLastBack_133 : decode cX0_takeLastBack 133 = .ok (.dup, 1) := by decide +kernel
theorem dX0_takeLastBack_134 : decode cX0_takeLastBack 134 = .ok (.getfield 58, 3) := by decide +kernel
theorem dX0_takeLastBack_137 : decode cX0_takeLastBack 137 = .ok (.iconst 1, 1) := by decide +kernel
theorem dX0_takeLastBack_138 : decode cX0_takeLastBack 138 = .ok (.isub, 1) := by decide +kernel
theorem dX0_takeLastBack_139 : decode cX0_takeLastBack 139 = .ok (.putfield 58, 3) := by decide +kernel
theorem dX0_takeLastBack_142 : decode cX0_takeLastBack 142 = .ok (.return_, 1) := by decide +kernel
theorem dX1_init_0 : decode cX1_init 0 = .ok (.aload_n 0, 1) := by decide +kernel
theorem dX1_init_1 : decode cX1_init 1 = .ok (.invokespecial 1, 3) := by decide +kernel
theorem dX1_init_4 : decode cX1_init 4 = .ok (.aload_n 0, 1) := by decide +kernel
theorem dX1_init_5 : decode cX1_init 5 = .ok (.iload_n 1, 1) := by decide +kernel
theorem dX1_init_6 : decode cX1_init 6 = .ok (.iconst 0, 1) := by decide +kernel
theorem dX1_init_7 : decode cX1_init 7 = .ok (.invokestatic 7, 3) := by decide +kernel
theorem dX1_init_10 : decode cX1_init 10 = .ok (.newarray .int, 2) := by decide +kernel
theorem dX1_init_12 : decode cX1_init 12 = .ok (.putfield 13, 3) := by decide +kernel
theorem dX1_init_15 : decode cX1_init 15 = .ok (.return_, 1) := by decide +kernel
theorem dX1_get_0 : decode cX1_get 0 = .ok (.iload_n 1, 1) := by decide +kernel
theorem dX1_get_1 : decode cX1_get 1 = .ok (.ifCond .lt 21, 3) := by decide +kernel
theorem dX1_get_4 : decode cX1_get 4 = .ok (.iload_n 1, 1) := by decide +kernel
theorem dX1_get_5 : decode cX1_get 5 = .ok (.aload_n 0, 1) := by decide +kernel
theorem dX1_get_6 : decode cX1_get 6 = .ok (.getfield 13, 3) := by decide +kernel
theorem dX1_get_9 : decode cX1_get 9 = .ok (.arraylength, 1) := by decide +kernel
theorem dX1_get_10 : decode cX1_get 10 = .ok (.if_icmp .ge 12, 3) := by decide +kernel
theorem dX1_get_13 : decode cX1_get 13 = .ok (.aload_n 0, 1) := by decide +kernel
theorem dX1_get_14 : decode cX1_get 14 = .ok (.getfield 13, 3) := by decide +kernel
theorem dX1_get_17 : decode cX1_get 17 = .ok (.iload_n 1, 1) := by decide +kernel
theorem dX1_get_18 : decode cX1_get 18 = .ok (.iaload, 1) := by decide +kernel
theorem dX1_get_19 : decode cX1_get 19 = .ok (.goto 4, 3) := by decide +kernel
theorem dX1_get_22 : decode cX1_get 22 = .ok (.iconst 0, 1) := by decide +kernel
theorem dX1_get_23 : decode cX1_get 23 = .ok (.ireturn, 1) := by decide +kernel
theorem dX1_set_0 : decode cX1_set 0 = .ok (.iload_n 1, 1) := by decide +kernel
theorem dX1_set_1 : decode cX1_set 1 = .ok (.ifCond .lt 19, 3) := by decide +kernel
theorem dX1_set_4 : decode cX1_set 4 = .ok (.iload_n 1, 1) := by decide +kernel
theorem dX1_set_5 : decode cX1_set 5 = .ok (.aload_n 0, 1) := by decide +kernel
theorem dX1_set_6 : decode cX1_set 6 = .ok (.getfield 13, 3) := by decide +kernel
theorem dX1_set_9 : decode cX1_set 9 = .ok (.arraylength, 1) := by decide +kernel
theorem dX1_set_10 : decode cX1_set 10 = .ok (.if_icmp .ge 10, 3) := by decide +kernel
theorem dX1_set_13 : decode cX1_set 13 = .ok (.aload_n 0, 1) := by decide +kernel
theorem dX1_set_14 : decode cX1_set 14 = .ok (.getfield 13, 3) := by decide +kernel
theorem dX1_set_17 : decode cX1_set 17 = .ok (.iload_n 1, 1) := by decide +kernel
theorem dX1_set_18 : decode cX1_set 18 = .ok (.iload_n 2, 1) := by decide +kernel
theorem dX1_set_19 : decode cX1_set 19 = .ok (.iastore, 1) := by decide +kernel
theorem dX1_set_20 : decode cX1_set 20 = .ok (.return_, 1) := by decide +kernel
set_option maxRecDepth 20000 in
theorem ggX1_take_X1_get : GoodIn wsX1_take wsX1_get := goodIn_r _ [6, 1, 7] (by decide +kernel) (by decide +kernel)
set_option maxRecDepth 20000 in
theorem gX1_take_X1_get : GoodIn wsX1_take (wsV RX1 19 RX1 yX1_get wsX1_get) := goodIn_app (goodIn_of _ (by decide +kernel)) ggX1_take_X1_get
theorem dX1_take_0 : decode cX1_take 0 = .ok (.iconst 0, 1) := by decide +kernel
theorem dX1_take_1 : decode cX1_take 1 = .ok (.istore_n 2, 1) := by decide +kernel
theorem dX1_take_2 : decode cX1_take 2 = .ok (.iload_n 2, 1) := by decide +kernel
theorem dX1_take_3 : decode cX1_take 3 = .ok (.aload_n 0, 1) := by decide +kernel
theorem dX1_take_4 : decode cX1_take 4 = .ok (.getfield 13, 3) := by decide +kernel
theorem dX1_take_7 : decode cX1_take 7 = .ok (.arraylength, 1) := by decide +kernel
theorem dX1_take_8 : decode cX1_take 8 = .ok (.if_icmp .ge 20, 3) := by decide +kernel
theorem dX1_take_11 : decode cX1_take 11 = .ok (.aload_n 0, 1) := by decide +kernel
theorem dX1_take_12 : decode cX1_take 12 = .ok (.getfield 13, 3) := by decide +kernel
theorem dX1_take_15 : decode cX1_take 15 = .ok (.iload_n 2, 1) := by decide +kernel
theorem dX1_take_16 : decode cX1_take 16 = .ok (.aload_n 1, 1) := by decide +kernel
theorem dX1_take_17 : decode cX1_take 17 = .ok (.iload_n 2, 1) := by decide +kernel
theorem dX1_take_18 : decode cX1_take 18 = .ok (.invokevirtual 19, 3) := by decide +kernel
theorem dX1_take_21 : decode cX1_take 21 = .ok (.iastore, 1) := by decide +kernel
theorem dX1_take_22 : decode cX1_take 22 = .ok (.iinc 2 1, 3) := by decide +kernel
theorem dX1_take_25 : decode cX1_take 25 = .ok (.goto (-23), 3) := by decide +kernel
theorem dX1_take_28 : decode cX1_take 28 = .ok (.return_, 1) := by decide +kernel
theorem dX1_dropFirst_0 : decode cX1_dropFirst 0 = .ok (.iconst 1, 1) := by decide +kernel
theorem dX1_dropFirst_1 : decode cX1_dropFirst 1 = .ok (.istore_n 1, 1) := by decide +kernel
theorem dX1_dropFirst_2 : decode cX1_dropFirst 2 = .ok (.iload_n 1, 1) := by decide +kernel
theorem dX1_dropFirst_3 : decode cX1_dropFirst 3 = .ok (.aload_n 0, 1) := by decide +kernel
theorem dX1_dropFirst_4 : decode cX1_dropFirst 4 = .ok (.getfield 13, 3) := by decide +kernel
theorem dX1_dropFirst_7 : decode cX1_dropFirst 7 = .ok (.arraylength, 1) := by decide +kernel
theorem dX1_dropFirst_8 : decode cX1_dropFirst 8 = .ok (.if_icmp .ge 23, 3) := by decide +kernel
theorem dX1_dropFirst_11 : decode cX1_dropFirst 11 = .ok (.aload_n 0, 1) := by decide +kernel
theorem dX1_dropFirst_12 : decode cX1_dropFirst 12 = .ok (.getfield 13, 3) := by decide +kernel
theorem dX1_dropFirst_15 : decode cX1_dropFirst 15 = .ok (.iload_n 1, 1) := by decide +kernel
theorem dX1_dropFirst_16 : decode cX1_dropFirst 16 = .ok (.iconst 1, 1) := by decide +kernel
theorem dX1_dropFirst_17 : decode cX1_dropFirst 17 = .ok (.isub, 1) := by decide +kernel
theorem dX1_dropFirst_18 : decode cX1_dropFirst 18 = .ok (.aload_n 0, 1) := by decide +kernel
theorem dX1_dropFirst_19 : decode cX1_dropFirst 19 = .ok (.getfield 13, 3) := by decide +kernel
theorem dX1_dropFirst_22 : decode cX1_dropFirst 22 = .ok (.iload_n 1, 1) := by decide +kernel
theorem dX1_dropFirst_23 : decode cX1_dropFirst 23 = .ok (.iaload, 1) := by decide +kernel
theorem dX1_dropFirst_24 : decode cX1_dropFirst 24 = .ok (.iastore, 1) := by decide +kernel
theorem dX1_dropFirst_25 : decode cX1_dropFirst 25 = .ok (.iinc 1 1, 3) := by decide +kernel
theorem dX1_dropFirst_28 : decode cX1_dropFirst 28 = .ok (.goto (-26), 3) := by decide +kernel
theorem dX1_dropFirst_31 : decode cX1_dropFirst 31 = .ok (.return_, 1) := by decide +kernel
set_option maxRecDepth 20000 in
theorem ggX2_init_X1_init : GoodIn wsX2_init wsX1_init := goodIn_r _ [12, 13, 2, 3, 14, 15, 16, 17, 18, 19, 20] (by decide +kernel) (by decide +kernel)
set_option maxRecDepth 20000 in
theorem gX2_init_X1_init : GoodIn wsX2_init (wsX1_init) := ggX2_init_X1_init
theorem dX2_init_0 : decode cX2_init 0 = .ok (.aload_n 0, 1) := by decide +kernel
theorem dX2_init_1 : decode cX2_init 1 = .ok (.invokespecial 3, 3) := by decide +kernel
theorem dX2_init_4 : decode cX2_init 4 = .ok (.aload_n 0, 1) := by decide +kernel
theorem dX2_init_5 : decode cX2_init 5 = .ok (.new 9, 3) := by decide +kernel
theorem dX2_init_8 : decode cX2_init 8 = .ok (.dup, 1) := by decide +kernel
theorem dX2_init_9 : decode cX2_init 9 = .ok (.bipush 6, 2) := by decide +kernel
theorem dX2_init_11 : decode cX2_init 11 = .ok (.invokespecial 11, 3) := by decide +kernel
theorem dX2_init_14 : decode cX2_init 14 = .ok (.putfield 14, 3) := by decide +kernel
theorem dX2_init_17 : decode cX2_init 17 = .ok (.aload_n 0, 1) := by decide +kernel
theorem dX2_init_18 : decode cX2_init 18 = .ok (.new 9, 3) := by decide +kernel
theorem dX2_init_21 : decode cX2_init 21 = .ok (.dup, 1) := by decide +kernel
theorem dX2_init_22 : decode cX2_init 22 = .ok (.bipush 6, 2) := by decide +kernel
theorem dX2_init_24 : decode cX2_init 24 = .ok (.invokespecial 11, 3) := by decide +kernel
theorem dX2_init_27 : decode cX2_init 27 = .ok (.putfield 20, 3) := by decide +kernel
theorem dX2_init_30 : decode cX2_init 30 = .ok (.aload_n 0, 1) := by decide +kernel
theorem dX2_init_31 : decode cX2_init 31 = .ok (.new 9, 3) := by decide +kernel
theorem dX2_init_34 : decode cX2_init 34 = .ok (.dup, 1) := by decide +kernel
theorem dX2_init_35 : decode cX2_init 35 = .ok (.bipush 6, 2) := by decide +kernel
theorem dX2_init_37 : decode cX2_init 37 = .ok (.invokespecial 11, 3) := by decide +kernel
theorem dX2_init_40 : decode cX2_init 40 = .ok (.putfield 23, 3) := by decide +kernel
theorem dX2_init_43 : decode cX2_init 43 = .ok (.return_, 1) := by decide +kernel
set_option maxRecDepth 20000 in
theorem ggX2_add_X1_set : GoodIn wsX2_add wsX1_set := goodIn_r _ [9, 10, 15] (by decide +kernel) (by decide +kernel)
set_option maxRecDepth 20000 in
theorem gX2_add_X1_set : GoodIn wsX2_add (wsV RX2 30 RX1 yX1_set wsX1_set) := goodIn_app (goodIn_of _ (by decide +kernel)) ggX2_add_X1_set
theorem dX2_add_0 : decode cX2_add 0 = .ok (.aload_n 0, 1) := by decide +kernel
theorem dX2_add_1 : decode cX2_add 1 = .ok (.getfield 14, 3) := by decide +kernel
theorem dX2_add_4 : decode cX2_add 4 = .ok (.aload_n 0, 1) := by decide +kernel
theorem dX2_add_5 : decode cX2_add 5 = .ok (.getfield 26, 3) := by decide +kernel
theorem dX2_add_8 : decode cX2_add 8 = .ok (.iload_n 1, 1) := by decide +kernel
theorem dX2_add_9 : decode cX2_add 9 = .ok (.invokevirtual 30, 3) := by decide +kernel
theorem dX2_add_12 : decode cX2_add 12 = .ok (.aload_n 0, 1) := by decide +kernel
theorem dX2_add_13 : decode cX2_add 13 = .ok (.getfield 20, 3) := by decide +kernel
theorem dX2_add_16 : decode cX2_add 16 = .ok (.aload_n 0, 1) := by decide +kernel
theorem dX2_add_17 : decode cX2_add 17 = .ok (.getfield 26, 3) := by decide +kernel
theorem dX2_add_20 : decode cX2_add 20 = .ok (.iload_n 2, 1) := by decide +kernel
theorem dX2_add_21 : decode cX2_add 21 = .ok (.invokevirtual 30, 3) := by decide +kernel
theorem dX2_add_24 : decode cX2_add 24 = .ok (.aload_n 0, 1) := by decide +kernel
theorem dX2_add_25 : decode cX2_add 25 = .ok (.getfield 23, 3) := by decide +kernel
theorem dX2_add_28 : decode cX2_add 28 = .ok (.aload_n 0, 1) := by decide +kernel
theorem dX2_add_29 : decode cX2_add 29 = .ok (.getfield 26, 3) := by decide +kernel
theorem dX2_add_32 : decode cX2_add 32 = .ok (.iload_n 3, 1) := by decide +kernel
theorem dX2_add_33 : decode cX2_add 33 = .ok (.invokevirtual 30, 3) := by decide +kernel
theorem dX2_add_36 : decode cX2_add 36 = .ok (.aload_n 0, 1) := by decide +kernel
theorem dX2_add_37 : decode cX2_add 37 = .ok (.dup, 1) := by decide +kernel
theorem dX2_add_38 : decode cX2_add 38 = .ok (.getfield 26, 3) := by decide +kernel
theorem dX2_add_41 : decode cX2_add 41 = .ok (.iconst 1, 1) := by decide +kernel
theorem dX2_add_42 : decode cX2_add 42 = .ok (.iadd, 1) := by decide +kernel
theorem dX2_add_43 : decode cX2_add 43 = .ok (.putfield 26, 3) := by decide +kernel
theorem dX2_add_46 : decode cX2_add 46 = .ok (.aload_n 0, 1) := by decide +kernel
theorem dX2_add_47 : decode cX2_add 47 = .ok (.getfield 26, 3) := by decide +kernel
theorem dX2_add_50 : decode cX2_add 50 = .ok (.ireturn, 1) := by decide +kernel
set_option maxRecDepth 20000 in
theorem ggX2_countRight_X5_bit : GoodIn wsX2_countRight wsX5_bit := goodIn_r _ [3] (by decide +kernel) (by decide +kernel)
set_option maxRecDepth 20000 in
theorem gX2_countRight_X5_bit_n39 : GoodIn wsX2_countRight (wsX5_bit) := ggX2_countRight_X5_bit
set_option maxRecDepth 20000 in
theorem ggX2_countRight_X2_countWrong : GoodIn wsX2_countRight wsX2_countWrong := goodIn_r _ [8, 9, 10, 11, 12, 13, 14, 15, 7, 16, 17, 18, 19, 20, 21, 22, 23, 24, 25, 26, 27, 28, 29, 30, 31, 32, 33, 1, 2, 3, 34, 35, 36, 37, 38, 39, 40, 41, 42, 43, 44, 45, 46, 47, 48, 49, 50, 51, 63, 64, 65, 66, 52, 53, 54, 55, 56, 57, 58, 59, 60, 61, 62, 67] (by decide +kernel) (by decide +kernel)
set_option maxRecDepth 20000 in
theorem gX2_countRight_X2_countWrong : GoodIn wsX2_countRight (wsV RX2 43 RX2 yX2_countWrong wsX2_countWrong) := goodIn_app (goodIn_of _ (by decide +kernel)) ggX2_countRight_X2_countWrong
theorem dX2_countRight_0 : decode cX2_countRight 0 = .ok (.iconst 0, 1) := by decide +kernel
theorem dX2_countRight_1 : decode cX2_countRight 1 = .ok (.istore_n 2, 1) := by decide +kernel
theorem dX2_countRight_2 : decode cX2_countRight 2 = .ok (.iconst 0, 1) := by decide +kernel
theorem dX2_countRight_3 : decode cX2_countRight 3 = .ok (.istore_n 3, 1) := by decide +kernel
theorem dX2_countRight_4 : decode cX2_countRight 4 = .ok (.iload_n 3, 1) := by decide +kernel
theorem dX2_countRight_5 : decode cX2_countRight 5 = .ok (.aload_n 1, 1) := by decide +kernel
theorem dX2_countRight_6 : decode cX2_countRight 6 = .ok (.getfield 34, 3) := by decide +kernel
theorem dX2_countRight_9 : decode cX2_countRight 9 = .ok (.invokestatic 39, 3) := by decide +kernel
theorem dX2_countRight_12 : decode cX2_countRight 12 = .ok (.if_icmp .ge 21, 3) := by decide +kernel
theorem dX2_countRight_15 : decode cX2_countRight 15 = .ok (.aload_n 0, 1) := by decide +kernel
theorem dX2_countRight_16 : decode cX2_countRight 16 = .ok (.aload_n 1, 1) := by decide +kernel
theorem dX2_countRight_17 : decode cX2_countRight 17 = .ok (.iload_n 3, 1) := by decide +kernel
theorem dX2_countRight_18 : decode cX2_countRight 18 = .ok (.invokevirtual 43, 3) := by decide +kernel
theorem dX2_countRight_21 : decode cX2_countRight 21 = .ok (.ifCond .ne 6, 3) := by decide +kernel
theorem dX2_countRight_24 : decode cX2_countRight 24 = .ok (.iinc 2 1, 3) := by decide +kernel
theorem dX2_countRight_27 : decode cX2_countRight 27 = .ok (.iinc 3 1, 3) := by decide +kernel
theorem dX2_countRight_30 : decode cX2_countRight 30 = .ok (.goto (-26), 3) := by decide +kernel
theorem dX2_countRight_33 : decode cX2_countRight 33 = .ok (.iload_n 2, 1) := by decide +kernel
theorem dX2_countRight_34 : decode cX2_countRight 34 = .ok (.ireturn, 1) := by decide +kernel
set_option maxRecDepth 20000 in
theorem ggX2_alwaysOn_X5_bit : GoodIn wsX2_alwaysOn wsX5_bit := goodIn_r _ [3] (by decide +kernel) (by decide +kernel)
set_option maxRecDepth 20000 in
theorem gX2_alwaysOn_X5_bit_n39 : GoodIn wsX2_alwaysOn (wsX5_bit) := ggX2_alwaysOn_X5_bit
set_option maxRecDepth 20000 in
theorem ggX2_alwaysOn_X2_countWrong : GoodIn wsX2_alwaysOn wsX2_countWrong := goodIn_r _ [8, 9, 10, 11, 12, 13, 14, 15, 7, 16, 17, 18, 19, 20, 21, 22, 23, 24, 25, 26, 27, 28, 29, 30, 31, 32, 33, 1, 2, 3, 34, 35, 36, 37, 38, 39, 40, 41, 42, 43, 44, 45, 46, 47, 48, 49, 50, 51, 63, 64, 65, 66, 52, 53, 54, 55, 56, 57, 58, 59, 60, 61, 62, 67] (by decide +kernel) (by decide +kernel)
set_option maxRecDepth 20000 in
theorem gX2_alwaysOn_X2_countWrong : GoodIn wsX2_alwaysOn (wsV RX2 43 RX2 yX2_countWrong wsX2_countWrong) := goodIn_app (goodIn_of _ (by decide +kernel)) ggX2_alwaysOn_X2_countWrong
theorem dX2_alwaysOn_0 : decode cX2_alwaysOn 0 = .ok (.bipush (-9), 2) := by decide +kernel
theorem dX2_alwaysOn_2 : decode cX2_alwaysOn 2 = .ok (.istore_n 3, 1) := by decide +kernel
theorem dX2_alwaysOn_3 : decode cX2_alwaysOn 3 = .ok (.iconst 0, 1) := by decide +kernel
theorem dX2_alwaysOn_4 : decode cX2_alwaysOn 4 = .ok (.istore 4, 2) := by decide +kernel
theorem dX2_alwaysOn_6 : decode cX2_alwaysOn 6 = .ok (.iload 4, 2) := by decide +kernel
theorem dX2_alwaysOn_8 : decode cX2_alwaysOn 8 = .ok (.aload_n 2, 1) := by decide +kernel
theorem dX2_alwaysOn_9 : decode cX2_alwaysOn 9 = .ok (.getfield 34, 3) := by decide +kernel
theorem dX2_alwaysOn_12 : decode cX2_alwaysOn 12 = .ok (.invokestatic 39, 3) := by decide +kernel
theorem dX2_alwaysOn_15 : decode cX2_alwaysOn 15 = .ok (.if_icmp .ge 64, 3) := by decide +kernel
theorem dX2_alwaysOn_18 : decode cX2_alwaysOn 18 = .ok (.aload_n 0, 1) := by decide +kernel
theorem dX2_alwaysOn_19 : decode cX2_alwaysOn 19 = .ok (.aload_n 2, 1) := by decide +kernel
theorem dX2_alwaysOn_20 : decode cX2_alwaysOn 20 = .ok (.iload 4, 2) := by decide +kernel
theorem dX2_alwaysOn_22 : decode cX2_alwaysOn 22 = .ok (.invokevirtual 43, 3) := by decide +kernel
theorem dX2_alwaysOn_25 : decode cX2_alwaysOn 25 = .ok (.ifCond .eq 6, 3) := by decide +kernel
theorem dX2_alwaysOn_28 : decode cX2_alwaysOn 28 = .ok (.goto 45, 3) := by decide +kernel
theorem dX2_alwaysOn_31 : decode cX2_alwaysOn 31 = .ok (.iload_n 1, 1) := by decide +kernel
theorem dX2_alwaysOn_32 : decode cX2_alwaysOn 32 = .ok (.iconst 1, 1) := by decide +kernel
theorem dX2_alwaysOn_33 : decode cX2_alwaysOn 33 = .ok (.if_icmp .ne 8, 3) := by decide +kernel
theorem dX2_alwaysOn_36 : decode cX2_alwaysOn 36 = .ok (.iload 4, 2) := by decide +kernel
theorem dX2_alwaysOn_38 : decode cX2_alwaysOn 38 = .ok (.goto 17, 3) := by decide +kernel
theorem dX2_alwaysOn_41 : decode cX2_alwaysOn 41 = .ok (.aload_n 2, 1) := by decide +kernel
theorem dX2_alwaysOn_42 : decode cX2_alwaysOn 42 = .ok (.getfield 34, 3) := by decide +kernel
theorem dX2_alwaysOn_45 : decode cX2_alwaysOn 45 = .ok (.invokestatic 39, 3) := by decide +kernel
theorem dX2_alwaysOn_48 : decode cX2_alwaysOn 48 = .ok (.iconst 1, 1) := by decide +kernel
theorem dX2_alwaysOn_49 : decode cX2_alwaysOn 49 = .ok (.isub, 1) := by decide +kernel
theorem dX2_alwaysOn_50 : decode cX2_alwaysOn 50 = .ok (.iload 4, 2) := by decide +kernel
theorem dX2_alwaysOn_52 : decode cX2_alwaysOn 52 = .ok (.iconst (-1), 1) := by decide +kernel
theorem dX2_alwaysOn_53 : decode cX2_alwaysOn 53 = .ok (.ixor, 1) := by decide +kernel
theorem dX2_alwaysOn_54 : decode cX2_alwaysOn 54 = .ok (.iand, 1) := by decide +kernel
theorem dX2_alwaysOn_55 : decode cX2_alwaysOn 55 = .ok (.istore 5, 2) := by decide +kernel
theorem dX2_alwaysOn_57 : decode cX2_alwaysOn 57 = .ok (.iload_n 3, 1) := by decide +kernel
theorem dX2_alwaysOn_58 : decode cX2_alwaysOn 58 = .ok (.bipush (-9), 2) := by decide +kernel
theorem dX2_alwaysOn_60 : decode cX2_alwaysOn 60 = .ok (.if_icmp .ne 8, 3) := by decide +kernel
theorem dX2_alwaysOn_63 : decode cX2_alwaysOn 63 = .ok (.iload 5, 2) := by decide +kernel
theorem dX2_alwaysOn_65 : decode cX2_alwaysOn 65 = .ok (.goto 7, 3) := by decide +kernel
theorem dX2_alwaysOn_68 : decode cX2_alwaysOn 68 = .ok (.iload_n 3, 1) := by decide +kernel
theorem dX2_alwaysOn_69 : decode cX2_alwaysOn 69 = .ok (.iload 5, 2) := by decide +kernel
theorem dX2_alwaysOn_71 : decode cX2_alwaysOn 71 = .ok (.iand, 1) := by decide +kernel
theorem dX2_alwaysOn_72 : decode cX2_alwaysOn 72 = .ok (.istore_n 3, 1) := by decide +kernel
theorem dX2_alwaysOn_73 : decode cX2_alwaysOn 73 = .ok (.iinc 4 1, 3) := by decide +kernel
theorem dX2_alwaysOn_76 : decode cX2_alwaysOn 76 = .ok (.goto (-70), 3) := by decide +kernel
theorem dX2_alwaysOn_79 : decode cX2_alwaysOn 79 = .ok (.iload_n 3, 1) := by decide +kernel
theorem dX2_alwaysOn_80 : decode cX2_alwaysOn 80 = .ok (.ireturn, 1) := by decide +kernel
set_option maxRecDepth 20000 in
theorem ggX2_leastWrong_X2_countWrong : GoodIn wsX2_leastWrong wsX2_countWrong := goodIn_r _ [5, 6, 7, 8, 9, 10, 11, 12, 4, 13, 14, 15, 16, 17, 18, 19, 20, 21, 22, 23, 24, 25, 26, 27, 28, 29, 30, 31, 32, 33, 34, 35, 36, 37, 38, 39, 40, 41, 42, 43, 44, 45, 46, 47, 48, 49, 50, 51, 63, 64, 65, 66, 52, 53, 54, 55, 56, 57, 58, 59, 60, 61, 62, 67] (by decide +kernel) (by decide +kernel)
set_option maxRecDepth 20000 in
theorem gX2_leastWrong_X2_countWrong : GoodIn wsX2_leastWrong (wsV RX2 43 RX2 yX2_countWrong wsX2_countWrong) := goodIn_app (goodIn_of _ (by decide +kernel)) ggX2_leastWrong_X2_countWrong
set_option maxRecDepth 20000 in
theorem ggX2_leastWrong_X5_bit : GoodIn wsX2_leastWrong wsX5_bit := goodIn_r _ [33] (by decide +kernel) (by decide +kernel)
set_option maxRecDepth 20000 in
theorem gX2_leastWrong_X5_bit_n39 : GoodIn wsX2_leastWrong (wsX5_bit) := ggX2_leastWrong_X5_bit
theorem dX2_leastWrong_0 : decode cX2_leastWrong 0 = .ok (.iconst 0, 1) := by decide +kernel
theorem dX2_leastWrong_1 : decode cX2_leastWrong 1 = .ok (.istore_n 2, 1) := by decide +kernel
theorem dX2_leastWrong_2 : decode cX2_leastWrong 2 = .ok (.aload_n 0, 1) := by decide +kernel
theorem dX2_leastWrong_3 : decode cX2_leastWrong 3 = .ok (.aload_n 1, 1) := by decide +kernel
theorem dX2_leastWrong_4 : decode cX2_leastWrong 4 = .ok (.iload_n 2, 1) := by decide +kernel
theorem dX2_leastWrong_5 : decode cX2_leastWrong 5 = .ok (.invokevirtual 43, 3) := by decide +kernel
theorem dX2_leastWrong_8 : decode cX2_leastWrong 8 = .ok (.istore_n 3, 1) := by decide +kernel
theorem dX2_leastWrong_9 : decode cX2_leastWrong 9 = .ok (.iconst 1, 1) := by decide +kernel
theorem dX2_leastWrong_10 : decode cX2_leastWrong 10 = .ok (.istore 4, 2) := by decide +kernel
theorem dX2_leastWrong_12 : decode cX2_leastWrong 12 = .ok (.iload 4, 2) := by decide +kernel
theorem dX2_leastWrong_14 : decode cX2_leastWrong 14 = .ok (.aload_n 1, 1) := by decide +kernel
theorem dX2_leastWrong_15 : decode cX2_leastWrong 15 = .ok (.getfield 34, 3) := by decide +kernel
theorem dX2_leastWrong_18 : decode cX2_leastWrong 18 = .ok (.invokestatic 39, 3) := by decide +kernel
theorem dX2_leastWrong_21 : decode cX2_leastWrong 21 = .ok (.if_icmp .ge 30, 3) := by decide +kernel
theorem dX2_leastWrong_24 : decode cX2_leastWrong 24 = .ok (.aload_n 0, 1) := by decide +kernel
theorem dX2_leastWrong_25 : decode cX2_leastWrong 25 = .ok (.aload_n 1, 1) := by decide +kernel
theorem dX2_leastWrong_26 : decode cX2_leastWrong 26 = .ok (.iload 4, 2) := by decide +kernel
theorem dX2_leastWrong_28 : decode cX2_leastWrong 28 = .ok (.invokevirtual 43, 3) := by decide +kernel
theorem dX2_leastWrong_31 : decode cX2_leastWrong 31 = .ok (.istore 5, 2) := by decide +kernel
theorem dX2_leastWrong_33 : decode cX2_leastWrong 33 = .ok (.iload 5, 2) := by decide +kernel
theorem dX2_leastWrong_35 : decode cX2_leastWrong 35 = .ok (.iload_n 3, 1) := by decide +kernel
theorem dX2_leastWrong_36 : decode cX2_leastWrong 36 = .ok (.if_icmp .ge 9, 3) := by decide +kernel
theorem dX2_leastWrong_39 : decode cX2_leastWrong 39 = .ok (.iload 5, 2) := by decide +kernel
theorem dX2_leastWrong_41 : decode cX2_leastWrong 41 = .ok (.istore_n 3, 1) := by decide +kernel
theorem dX2_leastWrong_42 : decode cX2_leastWrong 42 = .ok (.iload 4, 2) := by decide +kernel
theorem dX2_leastWrong_44 : decode cX2_leastWrong 44 = .ok (.istore_n 2, 1) := by decide +kernel
theorem dX2_leastWrong_45 : decode cX2_leastWrong 45 = .ok (.iinc 4 1, 3) := by decide +kernel
theorem dX2_leastWrong_48 : decode cX2_leastWrong 48 = .ok (.goto (-36), 3) := by decide +kernel
theorem dX2_leastWrong_51 : decode cX2_leastWrong 51 = .ok (.iload_n 2, 1) := by decide +kernel
theorem dX2_leastWrong_52 : decode cX2_leastWrong 52 = .ok (.ireturn, 1) := by decide +kernel
set_option maxRecDepth 20000 in
theorem ggX2_countWrong_X2_isLookedAt : GoodIn wsX2_countWrong wsX2_isLookedAt := goodIn_r _ [9, 2, 4, 3, 10, 11, 12, 13, 14, 15, 16, 17, 18, 19, 20, 21, 22, 23, 24, 25, 26, 27, 28, 29, 48, 49, 50, 51, 52, 53, 54, 55, 56, 57, 58, 59, 60, 61, 62, 63] (by decide +kernel) (by decide +kernel)
set_option maxRecDepth 20000 in
theorem gX2_countWrong_X2_isLookedAt : GoodIn wsX2_countWrong (wsV RX2 47 RX2 yX2_isLookedAt wsX2_isLookedAt) := goodIn_app (goodIn_of _ (by decide +kernel)) ggX2_countWrong_X2_isLookedAt
set_option maxRecDepth 20000 in
theorem ggX2_countWrong_X1_get : GoodIn wsX2_countWrong wsX1_get := goodIn_r _ [14, 15, 63] (by decide +kernel) (by decide +kernel)
set_option maxRecDepth 20000 in
theorem gX2_countWrong_X1_get : GoodIn wsX2_countWrong (wsV RX2 51 RX1 yX1_get wsX1_get) := goodIn_app (goodIn_of _ (by decide +kernel)) ggX2_countWrong_X1_get
set_option maxRecDepth 20000 in
theorem ggX2_countWrong_X5_isIn : GoodIn wsX2_countWrong wsX5_isIn := goodIn_r _ [31] (by decide +kernel) (by decide +kernel)
set_option maxRecDepth 20000 in
theorem gX2_countWrong_X5_isIn_n54 : GoodIn wsX2_countWrong (wsX5_isIn) := ggX2_countWrong_X5_isIn
set_option maxRecDepth 20000 in
theorem ggX2_countWrong_X4_heirsAmong : GoodIn wsX2_countWrong wsX4_heirsAmong := goodIn_r _ [35, 26, 36, 37, 38, 11, 12, 13, 14, 15, 30, 28, 31, 27, 29, 39, 40, 41, 19, 42, 43, 44, 45, 46, 47, 52, 53, 54, 55, 56, 57, 58, 59, 60, 61, 62, 63] (by decide +kernel) (by decide +kernel)
set_option maxRecDepth 20000 in
theorem gX2_countWrong_X4_heirsAmong : GoodIn wsX2_countWrong (wsV RX2 58 RX4 yX4_heirsAmong wsX4_heirsAmong) := goodIn_app (goodIn_of _ (by decide +kernel)) ggX2_countWrong_X4_heirsAmong
theorem dX2_countWrong_0 : decode cX2_countWrong 0 = .ok (.iconst 0, 1) := by decide +kernel
theorem dX2_countWrong_1 : decode cX2_countWrong 1 = .ok (.istore_n 3, 1) := by decide +kernel
theorem dX2_countWrong_2 : decode cX2_countWrong 2 = .ok (.iconst 0, 1) := by decide +kernel
theorem dX2_countWrong_3 : decode cX2_countWrong 3 = .ok (.istore 4, 2) := by decide +kernel
theorem dX2_countWrong_5 : decode cX2_countWrong 5 = .ok (.iload 4, 2) := by decide +kernel
theorem dX2_countWrong_7 : decode cX2_countWrong 7 = .ok (.aload_n 0, 1) := by decide +kernel
theorem dX2_countWrong_8 : decode cX2_countWrong 8 = .ok (.getfield 26, 3) := by decide +kernel
theorem dX2_countWrong_11 : decode cX2_countWrong 11 = .ok (.if_icmp .ge 91, 3) := by decide +kernel
theorem dX2_countWrong_14 : decode cX2_countWrong 14 = .ok (.aload_n 0, 1) := by decide +kernel
theorem dX2_countWrong_15 : decode cX2_countWrong 15 = .ok (.aload_n 1, 1) := by decide +kernel
theorem dX2_countWrong_16 : decode cX2_countWrong 16 = .ok (.iload 4, 2) := by decide +kernel
theorem dX2_countWrong_18 : decode cX2_countWrong 18 = .ok (.invokevirtual 47, 3) := by decide +kernel
theorem dX2_countWrong_21 : decode cX2_countWrong 21 = .ok (.ifCond .ne 6, 3) := by decide +kernel
theorem dX2_countWrong_24 : decode cX2_countWrong 24 = .ok (.goto 72, 3) := by decide +kernel
theorem dX2_countWrong_27 : decode cX2_countWrong 27 = .ok (.iload_n 2, 1) := by decide +kernel
theorem dX2_countWrong_28 : decode cX2_countWrong 28 = .ok (.aload_n 0, 1) := by decide +kernel
theorem dX2_countWrong_29 : decode cX2_countWrong 29 = .ok (.getfield 14, 3) := by decide +kernel
theorem dX2_countWrong_32 : decode cX2_countWrong 32 = .ok (.iload 4, 2) := by decide +kernel
theorem dX2_countWrong_34 : decode cX2_countWrong 34 = .ok (.invokevirtual 51, 3) := by decide +kernel
theorem dX2_countWrong_37 : decode cX2_countWrong 37 = .ok (.invokestatic 54, 3) := by decide +kernel
theorem dX2_countWrong_40 : decode cX2_countWrong 40 = .ok (.ifCond .eq 7, 3) := by decide +kernel
theorem dX2_countWrong_43 : decode cX2_countWrong 43 = .ok (.iconst 1, 1) := by decide +kernel
theorem dX2_countWrong_44 : decode cX2_countWrong 44 = .ok (.goto 4, 3) := by decide +kernel
theorem dX2_countWrong_47 : decode cX2_countWrong 47 = .ok (.iconst 0, 1) := by decide +kernel
theorem dX2_countWrong_48 : decode cX2_countWrong 48 = .ok (.istore 5, 2) := by decide +kernel
theorem dX2_countWrong_50 : decode cX2_countWrong 50 = .ok (.aload_n 1, 1) := by decide +kernel
theorem dX2_countWrong_51 : decode cX2_countWrong 51 = .ok (.aload_n 0, 1) := by decide +kernel
theorem dX2_countWrong_52 : decode cX2_countWrong 52 = .ok (.getfield 14, 3) := by decide +kernel
theorem dX2_countWrong_55 : decode cX2_countWrong 55 = .ok (.iload 4, 2) := by decide +kernel
theorem dX2_countWrong_57 : decode cX2_countWrong 57 = .ok (.invokevirtual 51, 3) := by decide +kernel
theorem dX2_countWrong_60 : decode cX2_countWrong 60 = .ok (.iload 5, 2) := by decide +kernel
theorem dX2_countWrong_62 : decode cX2_countWrong 62 = .ok (.aload_n 0, 1) := by decide +kernel
theorem dX2_countWrong_63 : decode cX2_countWrong 63 = .ok (.getfield 23, 3) := by decide +kernel
theorem dX2_countWrong_66 : decode cX2_countWrong 66 = .ok (.iload 4, 2) := by decide +kernel
theorem dX2_countWrong_68 : decode cX2_countWrong 68 = .ok (.invokevirtual 51, 3) := by decide +kernel
theorem dX2_countWrong_71 : decode cX2_countWrong 71 = .ok (.invokevirtual 58, 3) := by decide +kernel
theorem dX2_countWrong_74 : decode cX2_countWrong 74 = .ok (.istore 6, 2) := by decide +kernel
theorem dX2_countWrong_76 : decode cX2_countWrong 76 = .ok (.iload 6, 2) := by decide +kernel
theorem dX2_countWrong_78 : decode cX2_countWrong 78 = .ok (.aload_n 0, 1) := by decide +kernel
theorem dX2_countWrong_79 : decode cX2_countWrong 79 = .ok (.getfield 20, 3) := by decide +kernel
theorem dX2_countWrong_82 : decode cX2_countWrong 82 = .ok (.iload 4, 2) := by decide +kernel
theorem dX2_countWrong_84 : decode cX2_countWrong 84 = .ok (.invokevirtual 51, 3) := by decide +kernel
theorem dX2_countWrong_87 : decode cX2_countWrong 87 = .ok (.invokestatic 54, 3) := by decide +kernel
theorem dX2_countWrong_90 : decode cX2_countWrong 90 = .ok (.ifCond .ne 6, 3) := by decide +kernel
theorem dX2_countWrong_93 : decode cX2_countWrong 93 = .ok (.iinc 3 1, 3) := by decide +kernel
theorem dX2_countWrong_96 : decode cX2_countWrong 96 = .ok (.iinc 4 1, 3) := by decide +kernel
theorem dX2_countWrong_99 : decode cX2_countWrong 99 = .ok (.goto (-94), 3) := by decide +kernel
theorem dX2_countWrong_102 : decode cX2_countWrong 102 = .ok (.iload_n 3, 1) := by decide +kernel
theorem dX2_countWrong_103 : decode cX2_countWrong 103 = .ok (.ireturn, 1) := by decide +kernel
set_option maxRecDepth 20000 in
theorem ggX2_isLookedAt_X1_get : GoodIn wsX2_isLookedAt wsX1_get := goodIn_r _ [8, 9, 39] (by decide +kernel) (by decide +kernel)
set_option maxRecDepth 20000 in
theorem gX2_isLookedAt_X1_get : GoodIn wsX2_isLookedAt (wsV RX2 51 RX1 yX1_get wsX1_get) := goodIn_app (goodIn_of _ (by decide +kernel)) ggX2_isLookedAt_X1_get
set_option maxRecDepth 20000 in
theorem ggX2_isLookedAt_X4_hasHouse : GoodIn wsX2_isLookedAt wsX4_hasHouse := goodIn_r _ [14, 15, 28, 29, 30, 31, 32, 33, 34, 35, 36, 37, 38] (by decide +kernel) (by decide +kernel)
set_option maxRecDepth 20000 in
theorem gX2_isLookedAt_X4_hasHouse : GoodIn wsX2_isLookedAt (wsV RX2 62 RX4 yX4_hasHouse wsX4_hasHouse) := goodIn_app (goodIn_of _ (by decide +kernel)) ggX2_isLookedAt_X4_hasHouse
set_option maxRecDepth 20000 in
theorem ggX2_isLookedAt_X4_hasChild : GoodIn wsX2_isLookedAt wsX4_hasChild := goodIn_r _ [19, 20, 28, 29, 30, 31, 32, 33, 34, 35, 36, 37, 38] (by decide +kernel) (by decide +kernel)
set_option maxRecDepth 20000 in
theorem gX2_isLookedAt_X4_hasChild : GoodIn wsX2_isLookedAt (wsV RX2 66 RX4 yX4_hasChild wsX4_hasChild) := goodIn_app (goodIn_of _ (by decide +kernel)) ggX2_isLookedAt_X4_hasChild
set_option maxRecDepth 20000 in
theorem ggX2_isLookedAt_X5_bit : GoodIn wsX2_isLookedAt wsX5_bit := goodIn_r _ [23] (by decide +kernel) (by decide +kernel)
set_option maxRecDepth 20000 in
theorem gX2_isLookedAt_X5_bit_n39 : GoodIn wsX2_isLookedAt (wsX5_bit) := ggX2_isLookedAt_X5_bit
theorem dX2_isLookedAt_0 : decode cX2_isLookedAt 0 = .ok (.aload_n 1, 1) := by decide +kernel
theorem dX2_isLookedAt_1 : decode cX2_isLookedAt 1 = .ok (.aload_n 0, 1) := by decide +kernel
theorem dX2_isLookedAt_2 : decode cX2_isLookedAt 2 = .ok (.getfield 14, 3) := by decide +kernel
theorem dX2_isLookedAt_5 : decode cX2_isLookedAt 5 = .ok (.iload_n 2, 1) := by decide +kernel
theorem dX2_isLookedAt_6 : decode cX2_isLookedAt 6 = .ok (.invokevirtual 51, 3) := by decide +kernel
theorem dX2_isLookedAt_9 : decode cX2_isLookedAt 9 = .ok (.invokevirtual 62, 3) := by decide +kernel
theorem dX2_isLookedAt_12 : decode cX2_isLookedAt 12 = .ok (.ifCond .eq 40, 3) := by decide +kernel
theorem dX2_isLookedAt_15 : decode cX2_isLookedAt 15 = .ok (.aload_n 1, 1) := by decide +kernel
theorem dX2_isLookedAt_16 : decode cX2_isLookedAt 16 = .ok (.aload_n 0, 1) := by decide +kernel
theorem dX2_isLookedAt_17 : decode cX2_isLookedAt 17 = .ok (.getfield 20, 3) := by decide +kernel
theorem dX2_isLookedAt_20 : decode cX2_isLookedAt 20 = .ok (.iload_n 2, 1) := by decide +kernel
theorem dX2_isLookedAt_21 : decode cX2_isLookedAt 21 = .ok (.invokevirtual 51, 3) := by decide +kernel
theorem dX2_isLookedAt_24 : decode cX2_isLookedAt 24 = .ok (.invokevirtual 66, 3) := by decide +kernel
theorem dX2_isLookedAt_27 : decode cX2_isLookedAt 27 = .ok (.ifCond .eq 25, 3) := by decide +kernel
theorem dX2_isLookedAt_30 : decode cX2_isLookedAt 30 = .ok (.aload_n 0, 1) := by decide +kernel
theorem dX2_isLookedAt_31 : decode cX2_isLookedAt 31 = .ok (.getfield 23, 3) := by decide +kernel
theorem dX2_isLookedAt_34 : decode cX2_isLookedAt 34 = .ok (.iload_n 2, 1) := by decide +kernel
theorem dX2_isLookedAt_35 : decode cX2_isLookedAt 35 = .ok (.invokevirtual 51, 3) := by decide +kernel
theorem dX2_isLookedAt_38 : decode cX2_isLookedAt 38 = .ok (.aload_n 1, 1) := by decide +kernel
theorem dX2_isLookedAt_39 : decode cX2_isLookedAt 39 = .ok (.getfield 69, 3) := by decide +kernel
theorem dX2_isLookedAt_42 : decode cX2_isLookedAt 42 = .ok (.invokestatic 39, 3) := by decide +kernel
theorem dX2_isLookedAt_45 : decode cX2_isLookedAt 45 = .ok (.if_icmp .ge 7, 3) := by decide +kernel
theorem dX2_isLookedAt_48 : decode cX2_isLookedAt 48 = .ok (.iconst 1, 1) := by decide +kernel
theorem dX2_isLookedAt_49 : decode cX2_isLookedAt 49 = .ok (.goto 4, 3) := by decide +kernel
theorem dX2_isLookedAt_52 : decode cX2_isLookedAt 52 = .ok (.iconst 0, 1) := by decide +kernel
theorem dX2_isLookedAt_53 : decode cX2_isLookedAt 53 = .ok (.ireturn, 1) := by decide +kernel
set_option maxRecDepth 20000 in
theorem ggX3_init_X1_init : GoodIn wsX3_init wsX1_init := goodIn_r _ [10, 11, 2, 3, 12, 13, 14, 15, 16, 17, 18] (by decide +kernel) (by decide +kernel)
set_option maxRecDepth 20000 in
theorem gX3_init_X1_init : GoodIn wsX3_init (wsX1_init) := ggX3_init_X1_init
theorem dX3_init_0 : decode cX3_init 0 = .ok (.aload_n 0, 1) := by decide +kernel
theorem dX3_init_1 : decode cX3_init 1 = .ok (.invokespecial 3, 3) := by decide +kernel
theorem dX3_init_4 : decode cX3_init 4 = .ok (.aload_n 0, 1) := by decide +kernel
theorem dX3_init_5 : decode cX3_init 5 = .ok (.new 9, 3) := by decide +kernel
theorem dX3_init_8 : decode cX3_init 8 = .ok (.dup, 1) := by decide +kernel
theorem dX3_init_9 : decode cX3_init 9 = .ok (.bipush 48, 2) := by decide +kernel
theorem dX3_init_11 : decode cX3_init 11 = .ok (.invokespecial 11, 3) := by decide +kernel
theorem dX3_init_14 : decode cX3_init 14 = .ok (.putfield 14, 3) := by decide +kernel
theorem dX3_init_17 : decode cX3_init 17 = .ok (.return_, 1) := by decide +kernel
set_option maxRecDepth 20000 in
theorem ggX3_append_X1_set : GoodIn wsX3_append wsX1_set := goodIn_r _ [7, 8, 11] (by decide +kernel) (by decide +kernel)
set_option maxRecDepth 20000 in
theorem gX3_append_X1_set : GoodIn wsX3_append (wsV RX3 24 RX1 yX1_set wsX1_set) := goodIn_app (goodIn_of _ (by decide +kernel)) ggX3_append_X1_set
theorem dX3_append_0 : decode cX3_append 0 = .ok (.aload_n 0, 1) := by decide +kernel
theorem dX3_append_1 : decode cX3_append 1 = .ok (.getfield 14, 3) := by decide +kernel
theorem dX3_append_4 : decode cX3_append 4 = .ok (.aload_n 0, 1) := by decide +kernel
theorem dX3_append_5 : decode cX3_append 5 = .ok (.getfield 20, 3) := by decide +kernel
theorem dX3_append_8 : decode cX3_append 8 = .ok (.iload_n 1, 1) := by decide +kernel
theorem dX3_append_9 : decode cX3_append 9 = .ok (.invokevirtual 24, 3) := by decide +kernel
theorem dX3_append_12 : decode cX3_append 12 = .ok (.aload_n 0, 1) := by decide +kernel
theorem dX3_append_13 : decode cX3_append 13 = .ok (.dup, 1) := by decide +kernel
theorem dX3_append_14 : decode cX3_append 14 = .ok (.getfield 20, 3) := by decide +kernel
theorem dX3_append_17 : decode cX3_append 17 = .ok (.iconst 1, 1) := by decide +kernel
theorem dX3_append_18 : decode cX3_append 18 = .ok (.iadd, 1) := by decide +kernel
theorem dX3_append_19 : decode cX3_append 19 = .ok (.putfield 20, 3) := by decide +kernel
theorem dX3_append_22 : decode cX3_append 22 = .ok (.aload_n 0, 1) := by decide +kernel
theorem dX3_append_23 : decode cX3_append 23 = .ok (.getfield 20, 3) := by decide +kernel
theorem dX3_append_26 : decode cX3_append 26 = .ok (.ireturn, 1) := by decide +kernel
set_option maxRecDepth 20000 in
theorem ggX3_readInto_X4_clear : GoodIn wsX3_readInto wsX4_clear := goodIn_r _ [7, 8, 9, 10, 11, 12, 13, 59, 60, 61, 62, 63, 64, 65, 66, 67, 68, 69] (by decide +kernel) (by decide +kernel)
set_option maxRecDepth 20000 in
theorem gX3_readInto_X4_clear : GoodIn wsX3_readInto (wsV RX3 28 RX4 yX4_clear wsX4_clear) := goodIn_app (goodIn_of _ (by decide +kernel)) ggX3_readInto_X4_clear
set_option maxRecDepth 20000 in
theorem ggX3_readInto_X3_isFrom : GoodIn wsX3_readInto wsX3_isFrom := goodIn_r _ [18, 1, 2, 19, 20, 21, 22, 23, 24, 57, 58, 70] (by decide +kernel) (by decide +kernel)
set_option maxRecDepth 20000 in
theorem gX3_readInto_X3_isFrom : GoodIn wsX3_readInto (wsV RX3 33 RX3 yX3_isFrom wsX3_isFrom) := goodIn_app (goodIn_of _ (by decide +kernel)) ggX3_readInto_X3_isFrom
set_option maxRecDepth 20000 in
theorem ggX3_readInto_X1_get : GoodIn wsX3_readInto wsX1_get := goodIn_r _ [23, 24, 70] (by decide +kernel) (by decide +kernel)
set_option maxRecDepth 20000 in
theorem gX3_readInto_X1_get : GoodIn wsX3_readInto (wsV RX3 37 RX1 yX1_get wsX1_get) := goodIn_app (goodIn_of _ (by decide +kernel)) ggX3_readInto_X1_get
set_option maxRecDepth 20000 in
theorem ggX3_readInto_X3_faultOfHouse : GoodIn wsX3_readInto wsX3_faultOfHouse := goodIn_r _ [28, 14, 15, 16, 17, 18, 1, 2, 19, 20, 21, 22, 23, 24, 59, 60, 61, 62, 63, 64, 65, 66, 67, 68, 69, 57, 58, 70] (by decide +kernel) (by decide +kernel)
set_option maxRecDepth 20000 in
theorem gX3_readInto_X3_faultOfHouse : GoodIn wsX3_readInto (wsV RX3 41 RX3 yX3_faultOfHouse wsX3_faultOfHouse) := goodIn_app (goodIn_of _ (by decide +kernel)) ggX3_readInto_X3_faultOfHouse
set_option maxRecDepth 20000 in
theorem ggX3_readInto_X3_faultOfChild : GoodIn wsX3_readInto wsX3_faultOfChild := goodIn_r _ [32, 14, 15, 16, 17, 18, 1, 2, 19, 20, 21, 22, 23, 24, 59, 60, 61, 62, 63, 64, 65, 66, 67, 68, 69, 57, 58, 70] (by decide +kernel) (by decide +kernel)
set_option maxRecDepth 20000 in
theorem gX3_readInto_X3_faultOfChild : GoodIn wsX3_readInto (wsV RX3 45 RX3 yX3_faultOfChild wsX3_faultOfChild) := goodIn_app (goodIn_of _ (by decide +kernel)) ggX3_readInto_X3_faultOfChild
set_option maxRecDepth 20000 in
theorem ggX3_readInto_X3_figure : GoodIn wsX3_readInto wsX3_figure := goodIn_r _ [36, 2, 19, 20, 21, 22, 23, 24, 57, 58, 70] (by decide +kernel) (by decide +kernel)
set_option maxRecDepth 20000 in
theorem gX3_readInto_X3_figure : GoodIn wsX3_readInto (wsV RX3 48 RX3 yX3_figure wsX3_figure) := goodIn_app (goodIn_of _ (by decide +kernel)) ggX3_readInto_X3_figure
set_option maxRecDepth 20000 in
theorem ggX3_readInto_X4_addHouse : GoodIn wsX3_readInto wsX4_addHouse := goodIn_r _ [40, 41, 8, 11, 42, 43, 44, 22, 45, 24, 46, 47, 48, 59, 60, 61, 62, 63, 64, 65, 66, 67, 68, 69, 70] (by decide +kernel) (by decide +kernel)
set_option maxRecDepth 20000 in
theorem gX3_readInto_X4_addHouse : GoodIn wsX3_readInto (wsV RX3 51 RX4 yX4_addHouse wsX4_addHouse) := goodIn_app (goodIn_of _ (by decide +kernel)) ggX3_readInto_X4_addHouse
set_option maxRecDepth 20000 in
theorem ggX3_readInto_X4_addChild : GoodIn wsX3_readInto wsX4_addChild := goodIn_r _ [52, 9, 53, 13, 54, 55, 56, 10, 42, 43, 44, 22, 45, 24, 46, 47, 48, 59, 60, 61, 62, 63, 64, 65, 66, 67, 68, 69, 70] (by decide +kernel) (by decide +kernel)
set_option maxRecDepth 20000 in
theorem gX3_readInto_X4_addChild : GoodIn wsX3_readInto (wsV RX3 54 RX4 yX4_addChild wsX4_addChild) := goodIn_app (goodIn_of _ (by decide +kernel)) ggX3_readInto_X4_addChild
theorem dX3_readInto_0 : decode cX3_readInto 0 = .ok (.aload_n 1, 1) := by decide +kernel
theorem dX3_readInto_1 : decode cX3_readInto 1 = .ok (.invokevirtual 28, 3) := by decide +kernel
theorem dX3_readInto_4 : decode cX3_readInto 4 = .ok (.aload_n 0, 1) := by decide +kernel
theorem dX3_readInto_5 : decode cX3_readInto 5 = .ok (.iconst 0, 1) := by decide +kernel
theorem dX3_readInto_6 : decode cX3_readInto 6 = .ok (.bipush 89, 2) := by decide +kernel
theorem dX3_readInto_8 : decode cX3_readInto 8 = .ok (.bipush 89, 2) := by decide +kernel
theorem dX3_readInto_10 : decode cX3_readInto 10 = .ok (.invokevirtual 33, 3) := by decide +kernel
theorem dX3_readInto_13 : decode cX3_readInto 13 = .ok (.ifCond .ne 5, 3) := by decide +kernel
theorem dX3_readInto_16 : decode cX3_readInto 16 = .ok (.iconst 0, 1) := by decide +kernel
theorem dX3_readInto_17 : decode cX3_readInto 17 = .ok (.ireturn, 1) := by decide +kernel
theorem dX3_readInto_18 : decode cX3_readInto 18 = .ok (.iconst 1, 1) := by decide +kernel
theorem dX3_readInto_19 : decode cX3_readInto 19 = .ok (.istore_n 2, 1) := by decide +kernel
theorem dX3_readInto_20 : decode cX3_readInto 20 = .ok (.iload_n 2, 1) := by decide +kernel
theorem dX3_readInto_21 : decode cX3_readInto 21 = .ok (.aload_n 0, 1) := by decide +kernel
theorem dX3_readInto_22 : decode cX3_readInto 22 = .ok (.getfield 20, 3) := by decide +kernel
theorem dX3_readInto_25 : decode cX3_readInto 25 = .ok (.if_icmp .ge 119, 3) := by decide +kernel
theorem dX3_readInto_28 : decode cX3_readInto 28 = .ok (.aload_n 0, 1) := by decide +kernel
theorem dX3_readInto_29 : decode cX3_readInto 29 = .ok (.getfield 14, 3) := by decide +kernel
theorem dX3_readInto_32 : decode cX3_readInto 32 = .ok (.iload_n 2, 1) := by decide +kernel
theorem dX3_readInto_33 : decode cX3_readInto 33 = .ok (.invokevirtual 37, 3) := by decide +kernel
theorem dX3_readInto_36 : decode cX3_readInto 36 = .ok (.bipush 72, 2) := by decide +kernel
theorem dX3_readInto_38 : decode cX3_readInto 38 = .ok (.if_icmp .ne 7, 3) := by decide +kernel
theorem dX3_readInto_41 : decode cX3_readInto 41 = .ok (.iconst 1, 1) := by decide +kernel
theorem dX3_readInto_42 : decode cX3_readInto 42 = .ok (.goto 4, 3) := by decide +kernel
theorem dX3_readInto_45 : decode cX3_readInto 45 = .ok (.iconst 0, 1) := by decide +kernel
theorem dX3_readInto_46 : decode cX3_readInto 46 = .ok (.istore_n 3, 1) := by decide +kernel
theorem dX3_readInto_47 : decode cX3_readInto 47 = .ok (.iload_n 3, 1) := by decide +kernel
theorem dX3_readInto_48 : decode cX3_readInto 48 = .ok (.ifCond .eq 12, 3) := by decide +kernel
theorem dX3_readInto_51 : decode cX3_readInto 51 = .ok (.aload_n 0, 1) := by decide +kernel
theorem dX3_readInto_52 : decode cX3_readInto 52 = .ok (.iload_n 2, 1) := by decide +kernel
theorem dX3_readInto_53 : decode cX3_readInto 53 = .ok (.aload_n 1, 1) := by decide +kernel
theorem dX3_readInto_54 : decode cX3_readInto 54 = .ok (.invokevirtual 41, 3) := by decide +kernel
theorem dX3_readInto_57 : decode cX3_readInto 57 = .ok (.goto 9, 3) := by decide +kernel
theorem dX3_readInto_60 : decode cX3_readInto 60 = .ok (.aload_n 0, 1) := by decide +kernel
theorem dX3_readInto_61 : decode cX3_readInto 61 = .ok (.iload_n 2, 1) := by decide +kernel
theorem dX3_readInto_62 : decode cX3_readInto 62 = .ok (.aload_n 1, 1) := by decide +kernel
theorem dX3_readInto_63 : decode cX3_readInto 63 = .ok (.invokevirtual 45, 3) := by decide +kernel
theorem dX3_readInto_66 : decode cX3_readInto 66 = .ok (.istore 4, 2) := by decide +kernel
theorem dX3_readInto_68 : decode cX3_readInto 68 = .ok (.iload 4, 2) := by decide +kernel
theorem dX3_readInto_70 : decode cX3_readInto 70 = .ok (.bipush (-9), 2) := by decide +kernel
theorem dX3_readInto_72 : decode cX3_readInto 72 = .ok (.if_icmp .eq 6, 3) := by decide +kernel
theorem dX3_readInto_75 : decode cX3_readInto 75 = .ok (.iload 4, 2) := by decide +kernel
theorem dX3_readInto_77 : decode cX3_readInto 77 = .ok (.ireturn, 1) := by decide +kernel
theorem dX3_readInto_78 : decode cX3_readInto 78 = .ok (.iload_n 3, 1) := by decide +kernel
theorem dX3_readInto_79 : decode cX3_readInto 79 = .ok (.ifCond .eq 24, 3) := by decide +kernel
theorem dX3_readInto_82 : decode cX3_readInto 82 = .ok (.aload_n 1, 1) := by decide +kernel
theorem dX3_readInto_83 : decode cX3_readInto 83 = .ok (.aload_n 0, 1) := by decide +kernel
theorem dX3_readInto_84 : decode cX3_readInto 84 = .ok (.iload_n 2, 1) := by decide +kernel
theorem dX3_readInto_85 : decode cX3_readInto 85 = .ok (.iconst 1, 1) := by decide +kernel
theorem dX3_readInto_86 : decode cX3_readInto 86 = .ok (.iadd, 1) := by decide +kernel
theorem dX3_readInto_87 : decode cX3_readInto 87 = .ok (.invokevirtual 48, 3) := by decide +kernel
theorem dX3_readInto_90 : decode cX3_readInto 90 = .ok (.aload_n 0, 1) := by decide +kernel
theorem dX3_readInto_91 : decode cX3_readInto 91 = .ok (.iload_n 2, 1) := by decide +kernel
theorem dX3_readInto_92 : decode cX3_readInto 92 = .ok (.iconst 2, 1) := by decide +kernel
theorem dX3_readInto_93 : decode cX3_readInto 93 = .ok (.iadd, 1) := by decide +kernel
theorem dX3_readInto_94 : decode cX3_readInto 94 = .ok (.invokevirtual 48, 3) := by decide +kernel
theorem dX3_readInto_97 : decode cX3_readInto 97 = .ok (.invokevirtual 51, 3) := by decide +kernel
theorem dX3_readInto_100 : decode cX3_readInto 100 = .ok (.goto 29, 3) := by decide +kernel
theorem dX3_readInto_103 : decode cX3_readInto 103 = .ok (.aload_n 1, 1) := by decide +kernel
theorem dX3_readInto_104 : decode cX3_readInto 104 = .ok (.aload_n 0, 1) := by decide +kernel
theorem dX3_readInto_105 : decode cX3_readInto 105 = .ok (.iload_n 2, 1) := by decide +kernel
theorem dX3_readInto_106 : decode cX3_readInto 106 = .ok (.iconst 1, 1) := by decide +kernel
theorem dX3_readInto_107 : decode cX3_readInto 107 = .ok (.iadd, 1) := by decide +kernel
theorem dX3_readInto_108 : decode cX3_readInto 108 = .ok (.invokevirtual 48, 3) := by decide +kernel
theorem dX3_readInto_111 : decode cX3_readInto 111 = .ok (.aload_n 0, 1) := by decide +kernel
theorem dX3_readInto_112 : decode cX3_readInto 112 = .ok (.iload_n 2, 1) := by decide +kernel
theorem dX3_readInto_113 : decode cX3_readInto 113 = .ok (.iconst 2, 1) := by decide +kernel
theorem dX3_readInto_114 : decode cX3_readInto 114 = .ok (.iadd, 1) := by decide +kernel
theorem dX3_readInto_115 : decode cX3_readInto 115 = .ok (.invokevirtual 48, 3) := by decide +kernel
theorem dX3_readInto_118 : decode cX3_readInto 118 = .ok (.aload_n 0, 1) := by decide +kernel
theorem dX3_readInto_119 : decode cX3_readInto 119 = .ok (.iload_n 2, 1) := by decide +kernel
theorem dX3_readInto_120 : decode cX3_readInto 120 = .ok (.iconst 3, 1) := by decide +kernel
theorem dX3_readInto_121 : decode cX3_readInto 121 = .ok (.iadd, 1) := by decide +kernel
theorem dX3_readInto_122 : decode cX3_readInto 122 = .ok (.invokevirtual 48, 3) := by decide +kernel
theorem dX3_readInto_125 : decode cX3_readInto 125 = .ok (.invokevirtual 54, 3) := by decide +kernel
theorem dX3_readInto_128 : decode cX3_readInto 128 = .ok (.pop, 1) := by decide +kernel
theorem dX3_readInto_129 : decode cX3_readInto 129 = .ok (.iload_n 2, 1) := by decide +kernel
theorem dX3_readInto_130 : decode cX3_readInto 130 = .ok (.iload_n 3, 1) := by decide +kernel
theorem dX3_readInto_131 : decode cX3_readInto 131 = .ok (.ifCond .eq 7, 3) := by decide +kernel
theorem dX3_readInto_134 : decode cX3_readInto 134 = .ok (.iconst 3, 1) := by decide +kernel
theorem dX3_readInto_135 : decode cX3_readInto 135 = .ok (.goto 4, 3) := by decide +kernel
theorem dX3_readInto_138 : decode cX3_readInto 138 = .ok (.iconst 4, 1) := by decide +kernel
theorem dX3_readInto_139 : decode cX3_readInto 139 = .ok (.iadd, 1) := by decide +kernel
theorem dX3_readInto_140 : decode cX3_readInto 140 = .ok (.istore_n 2, 1) := by decide +kernel
theorem dX3_readInto_141 : decode cX3_readInto 141 = .ok (.goto (-121), 3) := by decide +kernel
theorem dX3_readInto_144 : decode cX3_readInto 144 = .ok (.bipush (-9), 2) := by decide +kernel
theorem dX3_readInto_146 : decode cX3_readInto 146 = .ok (.ireturn, 1) := by decide +kernel
set_option maxRecDepth 20000 in
theorem ggX3_faultOfHouse_X3_isFrom : GoodIn wsX3_faultOfHouse wsX3_isFrom := goodIn_r _ [5, 6, 7, 8, 9, 10, 11, 12, 13, 25, 26, 27] (by decide +kernel) (by decide +kernel)
set_option maxRecDepth 20000 in
theorem gX3_faultOfHouse_X3_isFrom : GoodIn wsX3_faultOfHouse (wsV RX3 33 RX3 yX3_isFrom wsX3_isFrom) := goodIn_app (goodIn_of _ (by decide +kernel)) ggX3_faultOfHouse_X3_isFrom
theorem dX3_faultOfHouse_0 : decode cX3_faultOfHouse 0 = .ok (.aload_n 2, 1) := by decide +kernel
theorem dX3_faultOfHouse_1 : decode cX3_faultOfHouse 1 = .ok (.getfield 58, 3) := by decide +kernel
theorem dX3_faultOfHouse_4 : decode cX3_faultOfHouse 4 = .ok (.iconst 3, 1) := by decide +kernel
theorem dX3_faultOfHouse_5 : decode cX3_faultOfHouse 5 = .ok (.if_icmp .lt 5, 3) := by decide +kernel
theorem dX3_faultOfHouse_8 : decode cX3_faultOfHouse 8 = .ok (.iload_n 1, 1) := by decide +kernel
theorem dX3_faultOfHouse_9 : decode cX3_faultOfHouse 9 = .ok (.ireturn, 1) := by decide +kernel
theorem dX3_faultOfHouse_10 : decode cX3_faultOfHouse 10 = .ok (.aload_n 0, 1) := by decide +kernel
theorem dX3_faultOfHouse_11 : decode cX3_faultOfHouse 11 = .ok (.iload_n 1, 1) := by decide +kernel
theorem dX3_faultOfHouse_12 : decode cX3_faultOfHouse 12 = .ok (.iconst 1, 1) := by decide +kernel
theorem dX3_faultOfHouse_13 : decode cX3_faultOfHouse 13 = .ok (.iadd, 1) := by decide +kernel
theorem dX3_faultOfHouse_14 : decode cX3_faultOfHouse 14 = .ok (.bipush 48, 2) := by decide +kernel
theorem dX3_faultOfHouse_16 : decode cX3_faultOfHouse 16 = .ok (.bipush 49, 2) := by decide +kernel
theorem dX3_faultOfHouse_18 : decode cX3_faultOfHouse 18 = .ok (.invokevirtual 33, 3) := by decide +kernel
theorem dX3_faultOfHouse_21 : decode cX3_faultOfHouse 21 = .ok (.ifCond .ne 7, 3) := by decide +kernel
theorem dX3_faultOfHouse_24 : decode cX3_faultOfHouse 24 = .ok (.iload_n 1, 1) := by decide +kernel
theorem dX3_faultOfHouse_25 : decode cX3_faultOfHouse 25 = .ok (.iconst 1, 1) := by decide +kernel
theorem dX3_faultOfHouse_26 : decode cX3_faultOfHouse 26 = .ok (.iadd, 1) := by decide +kernel
theorem dX3_faultOfHouse_27 : decode cX3_faultOfHouse 27 = .ok (.ireturn, 1) := by decide +kernel
theorem dX3_faultOfHouse_28 : decode cX3_faultOfHouse 28 = .ok (.aload_n 0, 1) := by decide +kernel
theorem dX3_faultOfHouse_29 : decode cX3_faultOfHouse 29 = .ok (.iload_n 1, 1) := by decide +kernel
theorem dX3_faultOfHouse_30 : decode cX3_faultOfHouse 30 = .ok (.iconst 2, 1) := by decide +kernel
theorem dX3_faultOfHouse_31 : decode cX3_faultOfHouse 31 = .ok (.iadd, 1) := by decide +kernel
theorem dX3_faultOfHouse_32 : decode cX3_faultOfHouse 32 = .ok (.bipush 49, 2) := by decide +kernel
theorem dX3_faultOfHouse_34 : decode cX3_faultOfHouse 34 = .ok (.bipush 57, 2) := by decide +kernel
theorem dX3_faultOfHouse_36 : decode cX3_faultOfHouse 36 = .ok (.invokevirtual 33, 3) := by decide +kernel
theorem dX3_faultOfHouse_39 : decode cX3_faultOfHouse 39 = .ok (.ifCond .ne 7, 3) := by decide +kernel
theorem dX3_faultOfHouse_42 : decode cX3_faultOfHouse 42 = .ok (.iload_n 1, 1) := by decide +kernel
theorem dX3_faultOfHouse_43 : decode cX3_faultOfHouse 43 = .ok (.iconst 2, 1) := by decide +kernel
theorem dX3_faultOfHouse_44 : decode cX3_faultOfHouse 44 = .ok (.iadd, 1) := by decide +kernel
theorem dX3_faultOfHouse_45 : decode cX3_faultOfHouse 45 = .ok (.ireturn, 1) := by decide +kernel
theorem dX3_faultOfHouse_46 : decode cX3_faultOfHouse 46 = .ok (.bipush (-9), 2) := by decide +kernel
theorem dX3_faultOfHouse_48 : decode cX3_faultOfHouse 48 = .ok (.ireturn, 1) := by decide +kernel
set_option maxRecDepth 20000 in
theorem ggX3_faultOfChild_X3_isFrom : GoodIn wsX3_faultOfChild wsX3_isFrom := goodIn_r _ [5, 6, 7, 8, 9, 10, 11, 12, 13, 25, 26, 27] (by decide +kernel) (by decide +kernel)
set_option maxRecDepth 20000 in
theorem gX3_faultOfChild_X3_isFrom : GoodIn wsX3_faultOfChild (wsV RX3 33 RX3 yX3_isFrom wsX3_isFrom) := goodIn_app (goodIn_of _ (by decide +kernel)) ggX3_faultOfChild_X3_isFrom
theorem dX3_faultOfChild_0 : decode cX3_faultOfChild 0 = .ok (.aload_n 0, 1) := by decide +kernel
theorem dX3_faultOfChild_1 : decode cX3_faultOfChild 1 = .ok (.iload_n 1, 1) := by decide +kernel
theorem dX3_faultOfChild_2 : decode cX3_faultOfChild 2 = .ok (.bipush 67, 2) := by decide +kernel
theorem dX3_faultOfChild_4 : decode cX3_faultOfChild 4 = .ok (.bipush 67, 2) := by decide +kernel
theorem dX3_faultOfChild_6 : decode cX3_faultOfChild 6 = .ok (.invokevirtual 33, 3) := by decide +kernel
theorem dX3_faultOfChild_9 : decode cX3_faultOfChild 9 = .ok (.ifCond .ne 5, 3) := by decide +kernel
theorem dX3_faultOfChild_12 : decode cX3_faultOfChild 12 = .ok (.iload_n 1, 1) := by decide +kernel
theorem dX3_faultOfChild_13 : decode cX3_faultOfChild 13 = .ok (.ireturn, 1) := by decide +kernel
theorem dX3_faultOfChild_14 : decode cX3_faultOfChild 14 = .ok (.aload_n 2, 1) := by decide +kernel
theorem dX3_faultOfChild_15 : decode cX3_faultOfChild 15 = .ok (.getfield 58, 3) := by decide +kernel
theorem dX3_faultOfChild_18 : decode cX3_faultOfChild 18 = .ok (.ifCond .eq 12, 3) := by decide +kernel
theorem dX3_faultOfChild_21 : decode cX3_faultOfChild 21 = .ok (.aload_n 2, 1) := by decide +kernel
theorem dX3_faultOfChild_22 : decode cX3_faultOfChild 22 = .ok (.getfield 61, 3) := by decide +kernel
theorem dX3_faultOfChild_25 : decode cX3_faultOfChild 25 = .ok (.bipush 6, 2) := by decide +kernel
theorem dX3_faultOfChild_27 : decode cX3_faultOfChild 27 = .ok (.if_icmp .lt 5, 3) := by decide +kernel
theorem dX3_faultOfChild_30 : decode cX3_faultOfChild 30 = .ok (.iload_n 1, 1) := by decide +kernel
theorem dX3_faultOfChild_31 : decode cX3_faultOfChild 31 = .ok (.ireturn, 1) := by decide +kernel
theorem dX3_faultOfChild_32 : decode cX3_faultOfChild 32 = .ok (.aload_n 0, 1) := by decide +kernel
theorem dX3_faultOfChild_33 : decode cX3_faultOfChild 33 = .ok (.iload_n 1, 1) := by decide +kernel
theorem dX3_faultOfChild_34 : decode cX3_faultOfChild 34 = .ok (.iconst 1, 1) := by decide +kernel
theorem dX3_faultOfChild_35 : decode cX3_faultOfChild 35 = .ok (.iadd, 1) := by decide +kernel
theorem dX3_faultOfChild_36 : decode cX3_faultOfChild 36 = .ok (.bipush 48, 2) := by decide +kernel
theorem dX3_faultOfChild_38 : decode cX3_faultOfChild 38 = .ok (.bipush 57, 2) := by decide +kernel
theorem dX3_faultOfChild_40 : decode cX3_faultOfChild 40 = .ok (.invokevirtual 33, 3) := by decide +kernel
theorem dX3_faultOfChild_43 : decode cX3_faultOfChild 43 = .ok (.ifCond .ne 7, 3) := by decide +kernel
theorem dX3_faultOfChild_46 : decode cX3_faultOfChild 46 = .ok (.iload_n 1, 1) := by decide +kernel
theorem dX3_faultOfChild_47 : decode cX3_faultOfChild 47 = .ok (.iconst 1, 1) := by decide +kernel
theorem dX3_faultOfChild_48 : decode cX3_faultOfChild 48 = .ok (.iadd, 1) := by decide +kernel
theorem dX3_faultOfChild_49 : decode cX3_faultOfChild 49 = .ok (.ireturn, 1) := by decide +kernel
theorem dX3_faultOfChild_50 : decode cX3_faultOfChild 50 = .ok (.aload_n 0, 1) := by decide +kernel
theorem dX3_faultOfChild_51 : decode cX3_faultOfChild 51 = .ok (.iload_n 1, 1) := by decide +kernel
theorem dX3_faultOfChild_52 : decode cX3_faultOfChild 52 = .ok (.iconst 2, 1) := by decide +kernel
theorem dX3_faultOfChild_53 : decode cX3_faultOfChild 53 = .ok (.iadd, 1) := by decide +kernel
theorem dX3_faultOfChild_54 : decode cX3_faultOfChild 54 = .ok (.bipush 48, 2) := by decide +kernel
theorem dX3_faultOfChild_56 : decode cX3_faultOfChild 56 = .ok (.bipush 48, 2) := by decide +kernel
theorem dX3_faultOfChild_58 : decode cX3_faultOfChild 58 = .ok (.aload_n 2, 1) := by decide +kernel
theorem dX3_faultOfChild_59 : decode cX3_faultOfChild 59 = .ok (.getfield 58, 3) := by decide +kernel
theorem dX3_faultOfChild_62 : decode cX3_faultOfChild 62 = .ok (.iadd, 1) := by decide +kernel
theorem dX3_faultOfChild_63 : decode cX3_faultOfChild 63 = .ok (.iconst 1, 1) := by decide +kernel
theorem dX3_faultOfChild_64 : decode cX3_faultOfChild 64 = .ok (.isub, 1) := by decide +kernel
theorem dX3_faultOfChild_65 : decode cX3_faultOfChild 65 = .ok (.invokevirtual 33, 3) := by decide +kernel
theorem dX3_faultOfChild_68 : decode cX3_faultOfChild 68 = .ok (.ifCond .ne 7, 3) := by decide +kernel
theorem dX3_faultOfChild_71 : decode cX3_faultOfChild 71 = .ok (.iload_n 1, 1) := by decide +kernel
theorem dX3_faultOfChild_72 : decode cX3_faultOfChild 72 = .ok (.iconst 2, 1) := by decide +kernel
theorem dX3_faultOfChild_73 : decode cX3_faultOfChild 73 = .ok (.iadd, 1) := by decide +kernel
theorem dX3_faultOfChild_74 : decode cX3_faultOfChild 74 = .ok (.ireturn, 1) := by decide +kernel
theorem dX3_faultOfChild_75 : decode cX3_faultOfChild 75 = .ok (.aload_n 0, 1) := by decide +kernel
theorem dX3_faultOfChild_76 : decode cX3_faultOfChild 76 = .ok (.iload_n 1, 1) := by decide +kernel
theorem dX3_faultOfChild_77 : decode cX3_faultOfChild 77 = .ok (.iconst 3, 1) := by decide +kernel
theorem dX3_faultOfChild_78 : decode cX3_faultOfChild 78 = .ok (.iadd, 1) := by decide +kernel
theorem dX3_faultOfChild_79 : decode cX3_faultOfChild 79 = .ok (.bipush 48, 2) := by decide +kernel
theorem dX3_faultOfChild_81 : decode cX3_faultOfChild 81 = .ok (.bipush 51, 2) := by decide +kernel
theorem dX3_faultOfChild_83 : decode cX3_faultOfChild 83 = .ok (.invokevirtual 33, 3) := by decide +kernel
theorem dX3_faultOfChild_86 : decode cX3_faultOfChild 86 = .ok (.ifCond .ne 7, 3) := by decide +kernel
theorem dX3_faultOfChild_89 : decode cX3_faultOfChild 89 = .ok (.iload_n 1, 1) := by decide +kernel
theorem dX3_faultOfChild_90 : decode cX3_faultOfChild 90 = .ok (.iconst 3, 1) := by decide +kernel
theorem dX3_faultOfChild_91 : decode cX3_faultOfChild 91 = .ok (.iadd, 1) := by decide +kernel
theorem dX3_faultOfChild_92 : decode cX3_faultOfChild 92 = .ok (.ireturn, 1) := by decide +kernel
theorem dX3_faultOfChild_93 : decode cX3_faultOfChild 93 = .ok (.bipush (-9), 2) := by decide +kernel
theorem dX3_faultOfChild_95 : decode cX3_faultOfChild 95 = .ok (.ireturn, 1) := by decide +kernel
set_option maxRecDepth 20000 in
theorem ggX3_isFrom_X1_get : GoodIn wsX3_isFrom wsX1_get := goodIn_r _ [7, 8, 11] (by decide +kernel) (by decide +kernel)
set_option maxRecDepth 20000 in
theorem gX3_isFrom_X1_get : GoodIn wsX3_isFrom (wsV RX3 37 RX1 yX1_get wsX1_get) := goodIn_app (goodIn_of _ (by decide +kernel)) ggX3_isFrom_X1_get
theorem dX3_isFrom_0 : decode cX3_isFrom 0 = .ok (.iload_n 1, 1) := by decide +kernel
theorem dX3_isFrom_1 : decode cX3_isFrom 1 = .ok (.aload_n 0, 1) := by decide +kernel
theorem dX3_isFrom_2 : decode cX3_isFrom 2 = .ok (.getfield 20, 3) := by decide +kernel
theorem dX3_isFrom_5 : decode cX3_isFrom 5 = .ok (.if_icmp .lt 5, 3) := by decide +kernel
theorem dX3_isFrom_8 : decode cX3_isFrom 8 = .ok (.iconst 0, 1) := by decide +kernel
theorem dX3_isFrom_9 : decode cX3_isFrom 9 = .ok (.ireturn, 1) := by decide +kernel
theorem dX3_isFrom_10 : decode cX3_isFrom 10 = .ok (.aload_n 0, 1) := by decide +kernel
theorem dX3_isFrom_11 : decode cX3_isFrom 11 = .ok (.getfield 14, 3) := by decide +kernel
theorem dX3_isFrom_14 : decode cX3_isFrom 14 = .ok (.iload_n 1, 1) := by decide +kernel
theorem dX3_isFrom_15 : decode cX3_isFrom 15 = .ok (.invokevirtual 37, 3) := by decide +kernel
theorem dX3_isFrom_18 : decode cX3_isFrom 18 = .ok (.istore 4, 2) := by decide +kernel
theorem dX3_isFrom_20 : decode cX3_isFrom 20 = .ok (.iload 4, 2) := by decide +kernel
theorem dX3_isFrom_22 : decode cX3_isFrom 22 = .ok (.iload_n 2, 1) := by decide +kernel
theorem dX3_isFrom_23 : decode cX3_isFrom 23 = .ok (.if_icmp .lt 13, 3) := by decide +kernel
theorem dX3_isFrom_26 : decode cX3_isFrom 26 = .ok (.iload 4, 2) := by decide +kernel
theorem dX3_isFrom_28 : decode cX3_isFrom 28 = .ok (.iload_n 3, 1) := by decide +kernel
theorem dX3_isFrom_29 : decode cX3_isFrom 29 = .ok (.if_icmp .gt 7, 3) := by decide +kernel
theorem dX3_isFrom_32 : decode cX3_isFrom 32 = .ok (.iconst 1, 1) := by decide +kernel
theorem dX3_isFrom_33 : decode cX3_isFrom 33 = .ok (.goto 4, 3) := by decide +kernel
theorem dX3_isFrom_36 : decode cX3_isFrom 36 = .ok (.iconst 0, 1) := by decide +kernel
theorem dX3_isFrom_37 : decode cX3_isFrom 37 = .ok (.ireturn, 1) := by decide +kernel
set_option maxRecDepth 20000 in
theorem ggX3_figure_X1_get : GoodIn wsX3_figure wsX1_get := goodIn_r _ [6, 7, 10] (by decide +kernel) (by decide +kernel)
set_option maxRecDepth 20000 in
theorem gX3_figure_X1_get : GoodIn wsX3_figure (wsV RX3 37 RX1 yX1_get wsX1_get) := goodIn_app (goodIn_of _ (by decide +kernel)) ggX3_figure_X1_get
theorem dX3_figure_0 : decode cX3_figure 0 = .ok (.aload_n 0, 1) := by decide +kernel
theorem dX3_figure_1 : decode cX3_figure 1 = .ok (.getfield 14, 3) := by decide +kernel
theorem dX3_figure_4 : decode cX3_figure 4 = .ok (.iload_n 1, 1) := by decide +kernel
theorem dX3_figure_5 : decode cX3_figure 5 = .ok (.invokevirtual 37, 3) := by decide +kernel
theorem dX3_figure_8 : decode cX3_figure 8 = .ok (.bipush 48, 2) := by decide +kernel
theorem dX3_figure_10 : decode cX3_figure 10 = .ok (.isub, 1) := by decide +kernel
theorem dX3_figure_11 : decode cX3_figure 11 = .ok (.ireturn, 1) := by decide +kernel
set_option maxRecDepth 20000 in
theorem ggX4_init_X1_init : GoodIn wsX4_init wsX1_init := goodIn_r _ [14, 15, 2, 3, 16, 17, 18, 19, 20, 21, 22] (by decide +kernel) (by decide +kernel)
set_option maxRecDepth 20000 in
theorem gX4_init_X1_init : GoodIn wsX4_init (wsX1_init) := ggX4_init_X1_init
theorem dX4_init_0 : decode cX4_init 0 = .ok (.aload_n 0, 1) := by decide +kernel
theorem dX4_init_1 : decode cX4_init 1 = .ok (.invokespecial 3, 3) := by decide +kernel
theorem dX4_init_4 : decode cX4_init 4 = .ok (.aload_n 0, 1) := by decide +kernel
theorem dX4_init_5 : decode cX4_init 5 = .ok (.new 9, 3) := by decide +kernel
theorem dX4_init_8 : decode cX4_init 8 = .ok (.dup, 1) := by decide +kernel
theorem dX4_init_9 : decode cX4_init 9 = .ok (.iconst 3, 1) := by decide +kernel
theorem dX4_init_10 : decode cX4_init 10 = .ok (.invokespecial 11, 3) := by decide +kernel
theorem dX4_init_13 : decode cX4_init 13 = .ok (.putfield 14, 3) := by decide +kernel
theorem dX4_init_16 : decode cX4_init 16 = .ok (.aload_n 0, 1) := by decide +kernel
theorem dX4_init_17 : decode cX4_init 17 = .ok (.new 9, 3) := by decide +kernel
theorem dX4_init_20 : decode cX4_init 20 = .ok (.dup, 1) := by decide +kernel
theorem dX4_init_21 : decode cX4_init 21 = .ok (.bipush 7, 2) := by decide +kernel
theorem dX4_init_23 : decode cX4_init 23 = .ok (.invokespecial 11, 3) := by decide +kernel
theorem dX4_init_26 : decode cX4_init 26 = .ok (.putfield 20, 3) := by decide +kernel
theorem dX4_init_29 : decode cX4_init 29 = .ok (.aload_n 0, 1) := by decide +kernel
theorem dX4_init_30 : decode cX4_init 30 = .ok (.new 9, 3) := by decide +kernel
theorem dX4_init_33 : decode cX4_init 33 = .ok (.dup, 1) := by decide +kernel
theorem dX4_init_34 : decode cX4_init 34 = .ok (.bipush 7, 2) := by decide +kernel
theorem dX4_init_36 : decode cX4_init 36 = .ok (.invokespecial 11, 3) := by decide +kernel
theorem dX4_init_39 : decode cX4_init 39 = .ok (.putfield 23, 3) := by decide +kernel
theorem dX4_init_42 : decode cX4_init 42 = .ok (.aload_n 0, 1) := by decide +kernel
theorem dX4_init_43 : decode cX4_init 43 = .ok (.new 9, 3) := by decide +kernel
theorem dX4_init_46 : decode cX4_init 46 = .ok (.dup, 1) := by decide +kernel
theorem dX4_init_47 : decode cX4_init 47 = .ok (.bipush 7, 2) := by decide +kernel
theorem dX4_init_49 : decode cX4_init 49 = .ok (.invokespecial 11, 3) := by decide +kernel
theorem dX4_init_52 : decode cX4_init 52 = .ok (.putfield 26, 3) := by decide +kernel
theorem dX4_init_55 : decode cX4_init 55 = .ok (.aload_n 0, 1) := by decide +kernel
theorem dX4_init_56 : decode cX4_init 56 = .ok (.new 9, 3) := by decide +kernel
theorem dX4_init_59 : decode cX4_init 59 = .ok (.dup, 1) := by decide +kernel
theorem dX4_init_60 : decode cX4_init 60 = .ok (.bipush 7, 2) := by decide +kernel
theorem dX4_init_62 : decode cX4_init 62 = .ok (.invokespecial 11, 3) := by decide +kernel
theorem dX4_init_65 : decode cX4_init 65 = .ok (.putfield 29, 3) := by decide +kernel
theorem dX4_init_68 : decode cX4_init 68 = .ok (.return_, 1) := by decide +kernel
theorem dX4_clear_0 : decode cX4_clear 0 = .ok (.aload_n 0, 1) := by decide +kernel
theorem dX4_clear_1 : decode cX4_clear 1 = .ok (.iconst 0, 1) := by decide +kernel
theorem dX4_clear_2 : decode cX4_clear 2 = .ok (.putfield 32, 3) := by decide +kernel
theorem dX4_clear_5 : decode cX4_clear 5 = .ok (.aload_n 0, 1) := by decide +kernel
theorem dX4_clear_6 : decode cX4_clear 6 = .ok (.iconst 0, 1) := by decide +kernel
theorem dX4_clear_7 : decode cX4_clear 7 = .ok (.putfield 36, 3) := by decide +kernel
theorem dX4_clear_10 : decode cX4_clear 10 = .ok (.aload_n 0, 1) := by decide +kernel
theorem dX4_clear_11 : decode cX4_clear 11 = .ok (.iconst 0, 1) := by decide +kernel
theorem dX4_clear_12 : decode cX4_clear 12 = .ok (.putfield 39, 3) := by decide +kernel
theorem dX4_clear_15 : decode cX4_clear 15 = .ok (.aload_n 0, 1) := by decide +kernel
theorem dX4_clear_16 : decode cX4_clear 16 = .ok (.iconst 0, 1) := by decide +kernel
theorem dX4_clear_17 : decode cX4_clear 17 = .ok (.putfield 42, 3) := by decide +kernel
theorem dX4_clear_20 : decode cX4_clear 20 = .ok (.aload_n 0, 1) := by decide +kernel
theorem dX4_clear_21 : decode cX4_clear 21 = .ok (.iconst 0, 1) := by decide +kernel
theorem dX4_clear_22 : decode cX4_clear 22 = .ok (.putfield 45, 3) := by decide +kernel
theorem dX4_clear_25 : decode cX4_clear 25 = .ok (.aload_n 0, 1) := by decide +kernel
theorem dX4_clear_26 : decode cX4_clear 26 = .ok (.iconst 0, 1) := by decide +kernel
theorem dX4_clear_27 : decode cX4_clear 27 = .ok (.putfield 48, 3) := by decide +kernel
theorem dX4_clear_30 : decode cX4_clear 30 = .ok (.return_, 1) := by decide +kernel
set_option maxRecDepth 20000 in
theorem ggX4_take_X1_take : GoodIn wsX4_take wsX1_take := goodIn_r _ [16, 17, 18, 19, 20, 15, 21, 33] (by decide +kernel) (by decide +kernel)
set_option maxRecDepth 20000 in
theorem gX4_take_X1_take : GoodIn wsX4_take (wsV RX4 51 RX1 yX1_take wsX1_take) := goodIn_app (goodIn_of _ (by decide +kernel)) ggX4_take_X1_take
theorem dX4_take_0 : decode cX4_take 0 = .ok (.aload_n 0, 1) := by decide +kernel
theorem dX4_take_1 : decode cX4_take 1 = .ok (.aload_n 1, 1) := by decide +kernel
theorem dX4_take_2 : decode cX4_take 2 = .ok (.getfield 32, 3) := by decide +kernel
theorem dX4_take_5 : decode cX4_take 5 = .ok (.putfield 32, 3) := by decide +kernel
theorem dX4_take_8 : decode cX4_take 8 = .ok (.aload_n 0, 1) := by decide +kernel
theorem dX4_take_9 : decode cX4_take 9 = .ok (.aload_n 1, 1) := by decide +kernel
theorem dX4_take_10 : decode cX4_take 10 = .ok (.getfield 36, 3) := by decide +kernel
theorem dX4_take_13 : decode cX4_take 13 = .ok (.putfield 36, 3) := by decide +kernel
theorem dX4_take_16 : decode cX4_take 16 = .ok (.aload_n 0, 1) := by decide +kernel
theorem dX4_take_17 : decode cX4_take 17 = .ok (.aload_n 1, 1) := by decide +kernel
theorem dX4_take_18 : decode cX4_take 18 = .ok (.getfield 39, 3) := by decide +kernel
theorem dX4_take_21 : decode cX4_take 21 = .ok (.putfield 39, 3) := by decide +kernel
theorem dX4_take_24 : decode cX4_take 24 = .ok (.aload_n 0, 1) := by decide +kernel
theorem dX4_take_25 : decode cX4_take 25 = .ok (.aload_n 1, 1) := by decide +kernel
theorem dX4_take_26 : decode cX4_take 26 = .ok (.getfield 42, 3) := by decide +kernel
theorem dX4_take_29 : decode cX4_take 29 = .ok (.putfield 42, 3) := by decide +kernel
theorem dX4_take_32 : decode cX4_take 32 = .ok (.aload_n 0, 1) := by decide +kernel
theorem dX4_take_33 : decode cX4_take 33 = .ok (.aload_n 1, 1) := by decide +kernel
theorem dX4_take_34 : decode cX4_take 34 = .ok (.getfield 45, 3) := by decide +kernel
theorem dX4_take_37 : decode cX4_take 37 = .ok (.putfield 45, 3) := by decide +kernel
theorem dX4_take_40 : decode cX4_take 40 = .ok (.aload_n 0, 1) := by decide +kernel
theorem dX4_take_41 : decode cX4_take 41 = .ok (.aload_n 1, 1) := by decide +kernel
theorem dX4_take_42 : decode cX4_take 42 = .ok (.getfield 48, 3) := by decide +kernel
theorem dX4_take_45 : decode cX4_take 45 = .ok (.putfield 48, 3) := by decide +kernel
theorem dX4_take_48 : decode cX4_take 48 = .ok (.aload_n 0, 1) := by decide +kernel
theorem dX4_take_49 : decode cX4_take 49 = .ok (.getfield 14, 3) := by decide +kernel
theorem dX4_take_52 : decode cX4_take 52 = .ok (.aload_n 1, 1) := by decide +kernel
theorem dX4_take_53 : decode cX4_take 53 = .ok (.getfield 14, 3) := by decide +kernel
theorem dX4_take_56 : decode cX4_take 56 = .ok (.invokevirtual 51, 3) := by decide +kernel
theorem dX4_take_59 : decode cX4_take 59 = .ok (.aload_n 0, 1) := by decide +kernel
theorem dX4_take_60 : decode cX4_take 60 = .ok (.getfield 20, 3) := by decide +kernel
theorem dX4_take_63 : decode cX4_take 63 = .ok (.aload_n 1, 1) := by decide +kernel
theorem dX4_take_64 : decode cX4_take 64 = .ok (.getfield 20, 3) := by decide +kernel
theorem dX4_take_67 : decode cX4_take 67 = .ok (.invokevirtual 51, 3) := by decide +kernel
theorem dX4_take_70 : decode cX4_take 70 = .ok (.aload_n 0, 1) := by decide +kernel
theorem dX4_take_71 : decode cX4_take 71 = .ok (.getfield 23, 3) := by decide +kernel
theorem dX4_take_74 : decode cX4_take 74 = .ok (.aload_n 1, 1) := by decide +kernel
theorem dX4_take_75 : decode cX4_take 75 = .ok (.getfield 23, 3) := by decide +kernel
theorem dX4_take_78 : decode cX4_take 78 = .ok (.invokevirtual 51, 3) := by decide +kernel
theorem dX4_take_81 : decode cX4_take 81 = .ok (.aload_n 0, 1) := by decide +kernel
theorem dX4_take_82 : decode cX4_take 82 = .ok (.getfield 26, 3) := by decide +kernel
theorem dX4_take_85 : decode cX4_take 85 = .ok (.aload_n 1, 1) := by decide +kernel
theorem dX4_take_86 : decode cX4_take 86 = .ok (.getfield 26, 3) := by decide +kernel
theorem dX4_take_89 : decode cX4_take 89 = .ok (.invokevirtual 51, 3) := by decide +kernel
theorem dX4_take_92 : decode cX4_take 92 = .ok (.aload_n 0, 1) := by decide +kernel
theorem dX4_take_93 : decode cX4_take 93 = .ok (.getfield 29, 3) := by decide +kernel
theorem dX4_take_96 : decode cX4_take 96 = .ok (.aload_n 1, 1) := by decide +kernel
theorem dX4_take_97 : decode cX4_take 97 = .ok (.getfield 29, 3) := by decide +kernel
theorem dX4_take_100 : decode cX4_take 100 = .ok (.invokevirtual 51, 3) := by decide +kernel
theorem dX4_take_103 : decode cX4_take 103 = .ok (.return_, 1) := by decide +kernel
theorem dX4_hasHouse_0 : decode cX4_hasHouse 0 = .ok (.iload_n 1, 1) := by decide +kernel
theorem dX4_hasHouse_1 : decode cX4_hasHouse 1 = .ok (.ifCond .lt 15, 3) := by decide +kernel
theorem dX4_hasHouse_4 : decode cX4_hasHouse 4 = .ok (.iload_n 1, 1) := by decide +kernel
theorem dX4_hasHouse_5 : decode cX4_hasHouse 5 = .ok (.aload_n 0, 1) := by decide +kernel
theorem dX4_hasHouse_6 : decode cX4_hasHouse 6 = .ok (.getfield 32, 3) := by decide +kernel
theorem dX4_hasHouse_9 : decode cX4_hasHouse 9 = .ok (.if_icmp .ge 7, 3) := by decide +kernel
theorem dX4_hasHouse_12 : decode cX4_hasHouse 12 = .ok (.iconst 1, 1) := by decide +kernel
theorem dX4_hasHouse_13 : decode cX4_hasHouse 13 = .ok (.goto 4, 3) := by decide +kernel
theorem dX4_hasHouse_16 : decode cX4_hasHouse 16 = .ok (.iconst 0, 1) := by decide +kernel
theorem dX4_hasHouse_17 : decode cX4_hasHouse 17 = .ok (.ireturn, 1) := by decide +kernel
theorem dX4_hasChild_0 : decode cX4_hasChild 0 = .ok (.iload_n 1, 1) := by decide +kernel
theorem dX4_hasChild_1 : decode cX4_hasChild 1 = .ok (.ifCond .lt 15, 3) := by decide +kernel
theorem dX4_hasChild_4 : decode cX4_hasChild 4 = .ok (.iload_n 1, 1) := by decide +kernel
theorem dX4_hasChild_5 : decode cX4_hasChild 5 = .ok (.aload_n 0, 1) := by decide +kernel
theorem dX4_hasChild_6 : decode cX4_hasChild 6 = .ok (.getfield 36, 3) := by decide +kernel
theorem dX4_hasChild_9 : decode cX4_hasChild 9 = .ok (.if_icmp .ge 7, 3) := by decide +kernel
theorem dX4_hasChild_12 : decode cX4_hasChild 12 = .ok (.iconst 1, 1) := by decide +kernel
theorem dX4_hasChild_13 : decode cX4_hasChild 13 = .ok (.goto 4, 3) := by decide +kernel
theorem dX4_hasChild_16 : decode cX4_hasChild 16 = .ok (.iconst 0, 1) := by decide +kernel
theorem dX4_hasChild_17 : decode cX4_hasChild 17 = .ok (.ireturn, 1) := by decide +kernel
set_option maxRecDepth 20000 in
theorem ggX4_isAlive_X4_hasChild : GoodIn wsX4_isAlive wsX4_hasChild := goodIn_r _ [6, 7, 11, 12, 13, 14, 15, 16, 17, 18, 19, 20, 21] (by decide +kernel) (by decide +kernel)
set_option maxRecDepth 20000 in
theorem gX4_isAlive_X4_hasChild : GoodIn wsX4_isAlive (wsV RX4 55 RX4 yX4_hasChild wsX4_hasChild) := goodIn_app (goodIn_of _ (by decide +kernel)) ggX4_isAlive_X4_hasChild
set_option maxRecDepth 20000 in
theorem ggX4_isAlive_X5_isIn : GoodIn wsX4_isAlive wsX5_isIn := goodIn_r _ [10] (by decide +kernel) (by decide +kernel)
set_option maxRecDepth 20000 in
theorem gX4_isAlive_X5_isIn_n59 : GoodIn wsX4_isAlive (wsX5_isIn) := ggX4_isAlive_X5_isIn
theorem dX4_isAlive_0 : decode cX4_isAlive 0 = .ok (.aload_n 0, 1) := by decide +kernel
theorem dX4_isAlive_1 : decode cX4_isAlive 1 = .ok (.iload_n 1, 1) := by decide +kernel
theorem dX4_isAlive_2 : decode cX4_isAlive 2 = .ok (.invokevirtual 55, 3) := by decide +kernel
theorem dX4_isAlive_5 : decode cX4_isAlive 5 = .ok (.ifCond .eq 18, 3) := by decide +kernel
theorem dX4_isAlive_8 : decode cX4_isAlive 8 = .ok (.aload_n 0, 1) := by decide +kernel
theorem dX4_isAlive_9 : decode cX4_isAlive 9 = .ok (.getfield 39, 3) := by decide +kernel
theorem dX4_isAlive_12 : decode cX4_isAlive 12 = .ok (.iload_n 1, 1) := by decide +kernel
theorem dX4_isAlive_13 : decode cX4_isAlive 13 = .ok (.invokestatic 59, 3) := by decide +kernel
theorem dX4_isAlive_16 : decode cX4_isAlive 16 = .ok (.ifCond .eq 7, 3) := by decide +kernel
theorem dX4_isAlive_19 : decode cX4_isAlive 19 = .ok (.iconst 1, 1) := by decide +kernel
theorem dX4_isAlive_20 : decode cX4_isAlive 20 = .ok (.goto 4, 3) := by decide +kernel
theorem dX4_isAlive_23 : decode cX4_isAlive 23 = .ok (.iconst 0, 1) := by decide +kernel
theorem dX4_isAlive_24 : decode cX4_isAlive 24 = .ok (.ireturn, 1) := by decide +kernel
set_option maxRecDepth 20000 in
theorem ggX4_sideOf_X5_isIn : GoodIn wsX4_sideOf wsX5_isIn := goodIn_r _ [4] (by decide +kernel) (by decide +kernel)
set_option maxRecDepth 20000 in
theorem gX4_sideOf_X5_isIn_n59 : GoodIn wsX4_sideOf (wsX5_isIn) := ggX4_sideOf_X5_isIn
theorem dX4_sideOf_0 : decode cX4_sideOf 0 = .ok (.aload_n 0, 1) := by decide +kernel
theorem dX4_sideOf_1 : decode cX4_sideOf 1 = .ok (.getfield 42, 3) := by decide +kernel
theorem dX4_sideOf_4 : decode cX4_sideOf 4 = .ok (.iload_n 1, 1) := by decide +kernel
theorem dX4_sideOf_5 : decode cX4_sideOf 5 = .ok (.invokestatic 59, 3) := by decide +kernel
theorem dX4_sideOf_8 : decode cX4_sideOf 8 = .ok (.ifCond .eq 7, 3) := by decide +kernel
theorem dX4_sideOf_11 : decode cX4_sideOf 11 = .ok (.iconst 1, 1) := by decide +kernel
theorem dX4_sideOf_12 : decode cX4_sideOf 12 = .ok (.goto 4, 3) := by decide +kernel
theorem dX4_sideOf_15 : decode cX4_sideOf 15 = .ok (.iconst 0, 1) := by decide +kernel
theorem dX4_sideOf_16 : decode cX4_sideOf 16 = .ok (.ireturn, 1) := by decide +kernel
set_option maxRecDepth 20000 in
theorem ggX4_ageOf_X1_get : GoodIn wsX4_ageOf wsX1_get := goodIn_r _ [7, 8, 20] (by decide +kernel) (by decide +kernel)
set_option maxRecDepth 20000 in
theorem gX4_ageOf_X1_get : GoodIn wsX4_ageOf (wsV RX4 63 RX1 yX1_get wsX1_get) := goodIn_app (goodIn_of _ (by decide +kernel)) ggX4_ageOf_X1_get
theorem dX4_ageOf_0 : decode cX4_ageOf 0 = .ok (.aload_n 0, 1) := by decide +kernel
theorem dX4_ageOf_1 : decode cX4_ageOf 1 = .ok (.getfield 48, 3) := by decide +kernel
theorem dX4_ageOf_4 : decode cX4_ageOf 4 = .ok (.aload_n 0, 1) := by decide +kernel
theorem dX4_ageOf_5 : decode cX4_ageOf 5 = .ok (.getfield 20, 3) := by decide +kernel
theorem dX4_ageOf_8 : decode cX4_ageOf 8 = .ok (.iload_n 1, 1) := by decide +kernel
theorem dX4_ageOf_9 : decode cX4_ageOf 9 = .ok (.invokevirtual 63, 3) := by decide +kernel
theorem dX4_ageOf_12 : decode cX4_ageOf 12 = .ok (.isub, 1) := by decide +kernel
theorem dX4_ageOf_13 : decode cX4_ageOf 13 = .ok (.ireturn, 1) := by decide +kernel
set_option maxRecDepth 20000 in
theorem ggX4_housesLeft_X5_bit : GoodIn wsX4_housesLeft wsX5_bit := goodIn_r _ [5] (by decide +kernel) (by decide +kernel)
set_option maxRecDepth 20000 in
theorem gX4_housesLeft_X5_bit_n67 : GoodIn wsX4_housesLeft (wsX5_bit) := ggX4_housesLeft_X5_bit
theorem dX4_housesLeft_0 : decode cX4_housesLeft 0 = .ok (.aload_n 0, 1) := by decide +kernel
theorem dX4_housesLeft_1 : decode cX4_housesLeft 1 = .ok (.getfield 32, 3) := by decide +kernel
theorem dX4_housesLeft_4 : decode cX4_housesLeft 4 = .ok (.invokestatic 67, 3) := by decide +kernel
theorem dX4_housesLeft_7 : decode cX4_housesLeft 7 = .ok (.iconst 1, 1) := by decide +kernel
theorem dX4_housesLeft_8 : decode cX4_housesLeft 8 = .ok (.isub, 1) := by decide +kernel
theorem dX4_housesLeft_9 : decode cX4_housesLeft 9 = .ok (.aload_n 0, 1) := by decide +kernel
theorem dX4_housesLeft_10 : decode cX4_housesLeft 10 = .ok (.getfield 45, 3) := by decide +kernel
theorem dX4_housesLeft_13 : decode cX4_housesLeft 13 = .ok (.iconst (-1), 1) := by decide +kernel
theorem dX4_housesLeft_14 : decode cX4_housesLeft 14 = .ok (.ixor, 1) := by decide +kernel
theorem dX4_housesLeft_15 : decode cX4_housesLeft 15 = .ok (.iand, 1) := by decide +kernel
theorem dX4_housesLeft_16 : decode cX4_housesLeft 16 = .ok (.ireturn, 1) := by decide +kernel
set_option maxRecDepth 20000 in
theorem ggX4_broodOf_X4_isAlive : GoodIn wsX4_broodOf wsX4_isAlive := goodIn_r _ [7, 8, 9, 10, 11, 6, 12, 1, 13, 14, 15, 24, 25, 26, 27, 28, 29, 30, 31, 32, 33, 34] (by decide +kernel) (by decide +kernel)
set_option maxRecDepth 20000 in
theorem gX4_broodOf_X4_isAlive : GoodIn wsX4_broodOf (wsV RX4 70 RX4 yX4_isAlive wsX4_isAlive) := goodIn_app (goodIn_of _ (by decide +kernel)) ggX4_broodOf_X4_isAlive
set_option maxRecDepth 20000 in
theorem ggX4_broodOf_X1_get : GoodIn wsX4_broodOf wsX1_get := goodIn_r _ [20, 21, 35] (by decide +kernel) (by decide +kernel)
set_option maxRecDepth 20000 in
theorem gX4_broodOf_X1_get : GoodIn wsX4_broodOf (wsV RX4 63 RX1 yX1_get wsX1_get) := goodIn_app (goodIn_of _ (by decide +kernel)) ggX4_broodOf_X1_get
set_option maxRecDepth 20000 in
theorem ggX4_broodOf_X5_bit : GoodIn wsX4_broodOf wsX5_bit := goodIn_r _ [23] (by decide +kernel) (by decide +kernel)
set_option maxRecDepth 20000 in
theorem gX4_broodOf_X5_bit_n67 : GoodIn wsX4_broodOf (wsX5_bit) := ggX4_broodOf_X5_bit
theorem dX4_broodOf_0 : decode cX4_broodOf 0 = .ok (.iconst 0, 1) := by decide +kernel
theorem dX4_broodOf_1 : decode cX4_broodOf 1 = .ok (.istore_n 2, 1) := by decide +kernel
theorem dX4_broodOf_2 : decode cX4_broodOf 2 = .ok (.iconst 0, 1) := by decide +kernel
theorem dX4_broodOf_3 : decode cX4_broodOf 3 = .ok (.istore_n 3, 1) := by decide +kernel
theorem dX4_broodOf_4 : decode cX4_broodOf 4 = .ok (.iload_n 3, 1) := by decide +kernel
theorem dX4_broodOf_5 : decode cX4_broodOf 5 = .ok (.aload_n 0, 1) := by decide +kernel
theorem dX4_broodOf_6 : decode cX4_broodOf 6 = .ok (.getfield 36, 3) := by decide +kernel
theorem dX4_broodOf_9 : decode cX4_broodOf 9 = .ok (.if_icmp .ge 43, 3) := by decide +kernel
theorem dX4_broodOf_12 : decode cX4_broodOf 12 = .ok (.aload_n 0, 1) := by decide +kernel
theorem dX4_broodOf_13 : decode cX4_broodOf 13 = .ok (.iload_n 3, 1) := by decide +kernel
theorem dX4_broodOf_14 : decode cX4_broodOf 14 = .ok (.invokevirtual 70, 3) := by decide +kernel
theorem dX4_broodOf_17 : decode cX4_broodOf 17 = .ok (.ifCond .eq 29, 3) := by decide +kernel
theorem dX4_broodOf_20 : decode cX4_broodOf 20 = .ok (.aload_n 0, 1) := by decide +kernel
theorem dX4_broodOf_21 : decode cX4_broodOf 21 = .ok (.getfield 23, 3) := by decide +kernel
theorem dX4_broodOf_24 : decode cX4_broodOf 24 = .ok (.iload_n 3, 1) := by decide +kernel
theorem dX4_broodOf_25 : decode cX4_broodOf 25 = .ok (.invokevirtual 63, 3) := by decide +kernel
theorem dX4_broodOf_28 : decode cX4_broodOf 28 = .ok (.aload_n 0, 1) := by decide +kernel
theorem dX4_broodOf_29 : decode cX4_broodOf 29 = .ok (.getfield 23, 3) := by decide +kernel
theorem dX4_broodOf_32 : decode cX4_broodOf 32 = .ok (.iload_n 1, 1) := by decide +kernel
theorem dX4_broodOf_33 : decode cX4_broodOf 33 = .ok (.invokevirtual 63, 3) := by decide +kernel
theorem dX4_broodOf_36 : decode cX4_broodOf 36 = .ok (.if_icmp .ne 10, 3) := by decide +kernel
theorem dX4_broodOf_39 : decode cX4_broodOf 39 = .ok (.iload_n 2, 1) := by decide +kernel
theorem dX4_broodOf_40 : decode cX4_broodOf 40 = .ok (.iload_n 3, 1) := by decide +kernel
theorem dX4_broodOf_41 : decode cX4_broodOf 41 = .ok (.invokestatic 67, 3) := by decide +kernel
theorem dX4_broodOf_44 : decode cX4_broodOf 44 = .ok (.ior, 1) := by decide +kernel
theorem dX4_broodOf_45 : decode cX4_broodOf 45 = .ok (.istore_n 2, 1) := by decide +kernel
theorem dX4_broodOf_46 : decode cX4_broodOf 46 = .ok (.iinc 3 1, 3) := by decide +kernel
theorem dX4_broodOf_49 : decode cX4_broodOf 49 = .ok (.goto (-45), 3) := by decide +kernel
theorem dX4_broodOf_52 : decode cX4_broodOf 52 = .ok (.iload_n 2, 1) := by decide +kernel
theorem dX4_broodOf_53 : decode cX4_broodOf 53 = .ok (.ireturn, 1) := by decide +kernel
set_option maxRecDepth 20000 in
theorem ggX4_addHouse_X1_set : GoodIn wsX4_addHouse wsX1_set := goodIn_r _ [8, 9, 24] (by decide +kernel) (by decide +kernel)
set_option maxRecDepth 20000 in
theorem gX4_addHouse_X1_set : GoodIn wsX4_addHouse (wsV RX4 73 RX1 yX1_set wsX1_set) := goodIn_app (goodIn_of _ (by decide +kernel)) ggX4_addHouse_X1_set
set_option maxRecDepth 20000 in
theorem ggX4_addHouse_X5_bit : GoodIn wsX4_addHouse wsX5_bit := goodIn_r _ [12] (by decide +kernel) (by decide +kernel)
set_option maxRecDepth 20000 in
theorem gX4_addHouse_X5_bit_n67 : GoodIn wsX4_addHouse (wsX5_bit) := ggX4_addHouse_X5_bit
theorem dX4_addHouse_0 : decode cX4_addHouse 0 = .ok (.aload_n 0, 1) := by decide +kernel
theorem dX4_addHouse_1 : decode cX4_addHouse 1 = .ok (.getfield 14, 3) := by decide +kernel
theorem dX4_addHouse_4 : decode cX4_addHouse 4 = .ok (.aload_n 0, 1) := by decide +kernel
theorem dX4_addHouse_5 : decode cX4_addHouse 5 = .ok (.getfield 32, 3) := by decide +kernel
theorem dX4_addHouse_8 : decode cX4_addHouse 8 = .ok (.iload_n 2, 1) := by decide +kernel
theorem dX4_addHouse_9 : decode cX4_addHouse 9 = .ok (.invokevirtual 73, 3) := by decide +kernel
theorem dX4_addHouse_12 : decode cX4_addHouse 12 = .ok (.iload_n 1, 1) := by decide +kernel
theorem dX4_addHouse_13 : decode cX4_addHouse 13 = .ok (.iconst 1, 1) := by decide +kernel
theorem dX4_addHouse_14 : decode cX4_addHouse 14 = .ok (.if_icmp .ne 19, 3) := by decide +kernel
theorem dX4_addHouse_17 : decode cX4_addHouse 17 = .ok (.aload_n 0, 1) := by decide +kernel
theorem dX4_addHouse_18 : decode cX4_addHouse 18 = .ok (.dup, 1) := by decide +kernel
theorem dX4_addHouse_19 : decode cX4_addHouse 19 = .ok (.getfield 42, 3) := by decide +kernel
theorem dX4_addHouse_22 : decode cX4_addHouse 22 = .ok (.aload_n 0, 1) := by decide +kernel
theorem dX4_addHouse_23 : decode cX4_addHouse 23 = .ok (.getfield 32, 3) := by decide +kernel
theorem dX4_addHouse_26 : decode cX4_addHouse 26 = .ok (.invokestatic 67, 3) := by decide +kernel
theorem dX4_addHouse_29 : decode cX4_addHouse 29 = .ok (.ior, 1) := by decide +kernel
theorem dX4_addHouse_30 : decode cX4_addHouse 30 = .ok (.putfield 42, 3) := by decide +kernel
theorem dX4_addHouse_33 : decode cX4_addHouse 33 = .ok (.aload_n 0, 1) := by decide +kernel
theorem dX4_addHouse_34 : decode cX4_addHouse 34 = .ok (.dup, 1) := by decide +kernel
theorem dX4_addHouse_35 : decode cX4_addHouse 35 = .ok (.getfield 32, 3) := by decide +kernel
theorem dX4_addHouse_38 : decode cX4_addHouse 38 = .ok (.iconst 1, 1) := by decide +kernel
theorem dX4_addHouse_39 : decode cX4_addHouse 39 = .ok (.iadd, 1) := by decide +kernel
theorem dX4_addHouse_40 : decode cX4_addHouse 40 = .ok (.putfield 32, 3) := by decide +kernel
theorem dX4_addHouse_43 : decode cX4_addHouse 43 = .ok (.return_, 1) := by decide +kernel
set_option maxRecDepth 20000 in
theorem ggX4_addChild_X1_set : GoodIn wsX4_addChild wsX1_set := goodIn_r _ [12, 13, 28] (by decide +kernel) (by decide +kernel)
set_option maxRecDepth 20000 in
theorem gX4_addChild_X1_set : GoodIn wsX4_addChild (wsV RX4 73 RX1 yX1_set wsX1_set) := goodIn_app (goodIn_of _ (by decide +kernel)) ggX4_addChild_X1_set
set_option maxRecDepth 20000 in
theorem ggX4_addChild_X5_bit : GoodIn wsX4_addChild wsX5_bit := goodIn_r _ [16] (by decide +kernel) (by decide +kernel)
set_option maxRecDepth 20000 in
theorem gX4_addChild_X5_bit_n67 : GoodIn wsX4_addChild (wsX5_bit) := ggX4_addChild_X5_bit
theorem dX4_addChild_0 : decode cX4_addChild 0 = .ok (.aload_n 0, 1) := by decide +kernel
theorem dX4_addChild_1 : decode cX4_addChild 1 = .ok (.getfield 36, 3) := by decide +kernel
theorem dX4_addChild_4 : decode cX4_addChild 4 = .ok (.istore 4, 2) := by decide +kernel
theorem dX4_addChild_6 : decode cX4_addChild 6 = .ok (.aload_n 0, 1) := by decide +kernel
theorem dX4_addChild_7 : decode cX4_addChild 7 = .ok (.getfield 20, 3) := by decide +kernel
theorem dX4_addChild_10 : decode cX4_addChild 10 = .ok (.iload 4, 2) := by decide +kernel
theorem dX4_addChild_12 : decode cX4_addChild 12 = .ok (.aload_n 0, 1) := by decide +kernel
theorem dX4_addChild_13 : decode cX4_addChild 13 = .ok (.getfield 48, 3) := by decide +kernel
theorem dX4_addChild_16 : decode cX4_addChild 16 = .ok (.iload_n 1, 1) := by decide +kernel
theorem dX4_addChild_17 : decode cX4_addChild 17 = .ok (.isub, 1) := by decide +kernel
theorem dX4_addChild_18 : decode cX4_addChild 18 = .ok (.invokevirtual 73, 3) := by decide +kernel
theorem dX4_addChild_21 : decode cX4_addChild 21 = .ok (.aload_n 0, 1) := by decide +kernel
theorem dX4_addChild_22 : decode cX4_addChild 22 = .ok (.getfield 23, 3) := by decide +kernel
theorem dX4_addChild_25 : decode cX4_addChild 25 = .ok (.iload 4, 2) := by decide +kernel
theorem dX4_addChild_27 : decode cX4_addChild 27 = .ok (.iload_n 2, 1) := by decide +kernel
theorem dX4_addChild_28 : decode cX4_addChild 28 = .ok (.invokevirtual 73, 3) := by decide +kernel
theorem dX4_addChild_31 : decode cX4_addChild 31 = .ok (.aload_n 0, 1) := by decide +kernel
theorem dX4_addChild_32 : decode cX4_addChild 32 = .ok (.getfield 26, 3) := by decide +kernel
theorem dX4_addChild_35 : decode cX4_addChild 35 = .ok (.iload 4, 2) := by decide +kernel
theorem dX4_addChild_37 : decode cX4_addChild 37 = .ok (.iload_n 3, 1) := by decide +kernel
theorem dX4_addChild_38 : decode cX4_addChild 38 = .ok (.invokevirtual 73, 3) := by decide +kernel
theorem dX4_addChild_41 : decode cX4_addChild 41 = .ok (.aload_n 0, 1) := by decide +kernel
theorem dX4_addChild_42 : decode cX4_addChild 42 = .ok (.getfield 29, 3) := by decide +kernel
theorem dX4_addChild_45 : decode cX4_addChild 45 = .ok (.iload 4, 2) := by decide +kernel
theorem dX4_addChild_47 : decode cX4_addChild 47 = .ok (.iconst 0, 1) := by decide +kernel
theorem dX4_addChild_48 : decode cX4_addChild 48 = .ok (.invokevirtual 73, 3) := by decide +kernel
theorem dX4_addChild_51 : decode cX4_addChild 51 = .ok (.aload_n 0, 1) := by decide +kernel
theorem dX4_addChild_52 : decode cX4_addChild 52 = .ok (.dup, 1) := by decide +kernel
theorem dX4_addChild_53 : decode cX4_addChild 53 = .ok (.getfield 39, 3) := by decide +kernel
theorem dX4_addChild_56 : decode cX4_addChild 56 = .ok (.iload 4, 2) := by decide +kernel
theorem dX4_addChild_58 : decode cX4_addChild 58 = .ok (.invokestatic 67, 3) := by decide +kernel
theorem dX4_addChild_61 : decode cX4_addChild 61 = .ok (.ior, 1) := by decide +kernel
theorem dX4_addChild_62 : decode cX4_addChild 62 = .ok (.putfield 39, 3) := by decide +kernel
theorem dX4_addChild_65 : decode cX4_addChild 65 = .ok (.aload_n 0, 1) := by decide +kernel
theorem dX4_addChild_66 : decode cX4_addChild 66 = .ok (.dup, 1) := by decide +kernel
theorem dX4_addChild_67 : decode cX4_addChild 67 = .ok (.getfield 36, 3) := by decide +kernel
theorem dX4_addChild_70 : decode cX4_addChild 70 = .ok (.iconst 1, 1) := by decide +kernel
theorem dX4_addChild_71 : decode cX4_addChild 71 = .ok (.iadd, 1) := by decide +kernel
theorem dX4_addChild_72 : decode cX4_addChild 72 = .ok (.putfield 36, 3) := by decide +kernel
theorem dX4_addChild_75 : decode cX4_addChild 75 = .ok (.iload 4, 2) := by decide +kernel
theorem dX4_addChild_77 : decode cX4_addChild 77 = .ok (.ireturn, 1) := by decide +kernel
set_option maxRecDepth 20000 in
theorem ggX4_dropLastChild_X5_bit : GoodIn wsX4_dropLastChild wsX5_bit := goodIn_r _ [5] (by decide +kernel) (by decide +kernel)
set_option maxRecDepth 20000 in
theorem gX4_dropLastChild_X5_bit_n67 : GoodIn wsX4_dropLastChild (wsX5_bit) := ggX4_dropLastChild_X5_bit
theorem dX4_dropLastChild_0 : decode cX4_dropLastChild 0 = .ok (.aload_n 0, 1) := by decide +kernel
theorem dX4_dropLastChild_1 : decode cX4_dropLastChild 1 = .ok (.dup, 1) := by decide +kernel
theorem dX4_dropLastChild_2 : decode cX4_dropLastChild 2 = .ok (.getfield 36, 3) := by decide +kernel
theorem dX4_dropLastChild_5 : decode cX4_dropLastChild 5 = .ok (.iconst 1, 1) := by decide +kernel
theorem dX4_dropLastChild_6 : decode cX4_dropLastChild 6 = .ok (.isub, 1) := by decide +kernel
theorem dX4_dropLastChild_7 : decode cX4_dropLastChild 7 = .ok (.putfield 36, 3) := by decide +kernel
theorem dX4_dropLastChild_10 : decode cX4_dropLastChild 10 = .ok (.aload_n 0, 1) := by decide +kernel
theorem dX4_dropLastChild_11 : decode cX4_dropLastChild 11 = .ok (.dup, 1) := by decide +kernel
theorem dX4_dropLastChild_12 : decode cX4_dropLastChild 12 = .ok (.getfield 39, 3) := by decide +kernel
theorem dX4_dropLastChild_15 : decode cX4_dropLastChild 15 = .ok (.aload_n 0, 1) := by decide +kernel
theorem dX4_dropLastChild_16 : decode cX4_dropLastChild 16 = .ok (.getfield 36, 3) := by decide +kernel
theorem dX4_dropLastChild_19 : decode cX4_dropLastChild 19 = .ok (.invokestatic 67, 3) := by decide +kernel
theorem dX4_dropLastChild_22 : decode cX4_dropLastChild 22 = .ok (.iconst (-1), 1) := by decide +kernel
theorem dX4_dropLastChild_23 : decode cX4_dropLastChild 23 = .ok (.ixor, 1) := by decide +kernel
theorem dX4_dropLastChild_24 : decode cX4_dropLastChild 24 = .ok (.iand, 1) := by decide +kernel
theorem dX4_dropLastChild_25 : decode cX4_dropLastChild 25 = .ok (.putfield 39, 3) := by decide +kernel
theorem dX4_dropLastChild_28 : decode cX4_dropLastChild 28 = .ok (.return_, 1) := by decide +kernel
set_option maxRecDepth 20000 in
theorem ggX4_flipLife_X5_bit : GoodIn wsX4_flipLife wsX5_bit := goodIn_r _ [4] (by decide +kernel) (by decide +kernel)
set_option maxRecDepth 20000 in
theorem gX4_flipLife_X5_bit_n67 : GoodIn wsX4_flipLife (wsX5_bit) := ggX4_flipLife_X5_bit
theorem dX4_flipLife_0 : decode cX4_flipLife 0 = .ok (.aload_n 0, 1) := by decide +kernel
theorem dX4_flipLife_1 : decode cX4_flipLife 1 = .ok (.dup, 1) := by decide +kernel
theorem dX4_flipLife_2 : decode cX4_flipLife 2 = .ok (.getfield 39, 3) := by decide +kernel
theorem dX4_flipLife_5 : decode cX4_flipLife 5 = .ok (.iload_n 1, 1) := by decide +kernel
theorem dX4_flipLife_6 : decode cX4_flipLife 6 = .ok (.invokestatic 67, 3) := by decide +kernel
theorem dX4_flipLife_9 : decode cX4_flipLife 9 = .ok (.ixor, 1) := by decide +kernel
theorem dX4_flipLife_10 : decode cX4_flipLife 10 = .ok (.putfield 39, 3) := by decide +kernel
theorem dX4_flipLife_13 : decode cX4_flipLife 13 = .ok (.return_, 1) := by decide +kernel
set_option maxRecDepth 20000 in
theorem ggX4_flipSide_X5_bit : GoodIn wsX4_flipSide wsX5_bit := goodIn_r _ [4] (by decide +kernel) (by decide +kernel)
set_option maxRecDepth 20000 in
theorem gX4_flipSide_X5_bit_n67 : GoodIn wsX4_flipSide (wsX5_bit) := ggX4_flipSide_X5_bit
theorem dX4_flipSide_0 : decode cX4_flipSide 0 = .ok (.aload_n 0, 1) := by decide +kernel
theorem dX4_flipSide_1 : decode cX4_flipSide 1 = .ok (.dup, 1) := by decide +kernel
theorem dX4_flipSide_2 : decode cX4_flipSide 2 = .ok (.getfield 42, 3) := by decide +kernel
theorem dX4_flipSide_5 : decode cX4_flipSide 5 = .ok (.iload_n 1, 1) := by decide +kernel
theorem dX4_flipSide_6 : decode cX4_flipSide 6 = .ok (.invokestatic 67, 3) := by decide +kernel
theorem dX4_flipSide_9 : decode cX4_flipSide 9 = .ok (.ixor, 1) := by decide +kernel
theorem dX4_flipSide_10 : decode cX4_flipSide 10 = .ok (.putfield 42, 3) := by decide +kernel
theorem dX4_flipSide_13 : decode cX4_flipSide 13 = .ok (.return_, 1) := by decide +kernel
set_option maxRecDepth 20000 in
theorem ggX4_canPass_X4_hasHouse : GoodIn wsX4_canPass wsX4_hasHouse := goodIn_r _ [7, 8, 36, 37, 38, 39, 40, 41, 42, 43, 44, 45, 46] (by decide +kernel) (by decide +kernel)
set_option maxRecDepth 20000 in
theorem gX4_canPass_X4_hasHouse : GoodIn wsX4_canPass (wsV RX4 77 RX4 yX4_hasHouse wsX4_hasHouse) := goodIn_app (goodIn_of _ (by decide +kernel)) ggX4_canPass_X4_hasHouse
set_option maxRecDepth 20000 in
theorem ggX4_canPass_X5_isIn : GoodIn wsX4_canPass wsX5_isIn := goodIn_r _ [11] (by decide +kernel) (by decide +kernel)
set_option maxRecDepth 20000 in
theorem gX4_canPass_X5_isIn_n59 : GoodIn wsX4_canPass (wsX5_isIn) := ggX4_canPass_X5_isIn
set_option maxRecDepth 20000 in
theorem ggX4_canPass_X4_heirsAmong : GoodIn wsX4_canPass wsX4_heirsAmong := goodIn_r _ [15, 16, 17, 18, 19, 20, 21, 22, 23, 24, 9, 10, 11, 25, 26, 27, 28, 29, 6, 30, 31, 32, 33, 34, 35, 36, 37, 38, 39, 40, 41, 42, 43, 44, 45, 46, 47] (by decide +kernel) (by decide +kernel)
set_option maxRecDepth 20000 in
theorem gX4_canPass_X4_heirsAmong : GoodIn wsX4_canPass (wsV RX4 80 RX4 yX4_heirsAmong wsX4_heirsAmong) := goodIn_app (goodIn_of _ (by decide +kernel)) ggX4_canPass_X4_heirsAmong
theorem dX4_canPass_0 : decode cX4_canPass 0 = .ok (.aload_n 0, 1) := by decide +kernel
theorem dX4_canPass_1 : decode cX4_canPass 1 = .ok (.iload_n 1, 1) := by decide +kernel
theorem dX4_canPass_2 : decode cX4_canPass 2 = .ok (.invokevirtual 77, 3) := by decide +kernel
theorem dX4_canPass_5 : decode cX4_canPass 5 = .ok (.ifCond .eq 31, 3) := by decide +kernel
theorem dX4_canPass_8 : decode cX4_canPass 8 = .ok (.aload_n 0, 1) := by decide +kernel
theorem dX4_canPass_9 : decode cX4_canPass 9 = .ok (.getfield 45, 3) := by decide +kernel
theorem dX4_canPass_12 : decode cX4_canPass 12 = .ok (.iload_n 1, 1) := by decide +kernel
theorem dX4_canPass_13 : decode cX4_canPass 13 = .ok (.invokestatic 59, 3) := by decide +kernel
theorem dX4_canPass_16 : decode cX4_canPass 16 = .ok (.ifCond .ne 20, 3) := by decide +kernel
theorem dX4_canPass_19 : decode cX4_canPass 19 = .ok (.aload_n 0, 1) := by decide +kernel
theorem dX4_canPass_20 : decode cX4_canPass 20 = .ok (.iload_n 1, 1) := by decide +kernel
theorem dX4_canPass_21 : decode cX4_canPass 21 = .ok (.iconst 0, 1) := by decide +kernel
theorem dX4_canPass_22 : decode cX4_canPass 22 = .ok (.aload_n 0, 1) := by decide +kernel
theorem dX4_canPass_23 : decode cX4_canPass 23 = .ok (.getfield 39, 3) := by decide +kernel
theorem dX4_canPass_26 : decode cX4_canPass 26 = .ok (.invokevirtual 80, 3) := by decide +kernel
theorem dX4_canPass_29 : decode cX4_canPass 29 = .ok (.ifCond .eq 7, 3) := by decide +kernel
theorem dX4_canPass_32 : decode cX4_canPass 32 = .ok (.iconst 1, 1) := by decide +kernel
theorem dX4_canPass_33 : decode cX4_canPass 33 = .ok (.goto 4, 3) := by decide +kernel
theorem dX4_canPass_36 : decode cX4_canPass 36 = .ok (.iconst 0, 1) := by decide +kernel
theorem dX4_canPass_37 : decode cX4_canPass 37 = .ok (.ireturn, 1) := by decide +kernel
set_option maxRecDepth 20000 in
theorem ggX4_passTo_X5_bit : GoodIn wsX4_passTo wsX5_bit := goodIn_r _ [4] (by decide +kernel) (by decide +kernel)
set_option maxRecDepth 20000 in
theorem gX4_passTo_X5_bit_n67 : GoodIn wsX4_passTo (wsX5_bit) := ggX4_passTo_X5_bit
set_option maxRecDepth 20000 in
theorem ggX4_passTo_X4_partOf : GoodIn wsX4_passTo wsX4_partOf := goodIn_r _ [9, 10, 11, 12, 13, 14, 15, 16, 17, 18, 19, 20, 21, 22, 23, 36, 37, 38, 39, 40, 41, 42, 43, 44, 45, 46, 47] (by decide +kernel) (by decide +kernel)
set_option maxRecDepth 20000 in
theorem gX4_passTo_X4_partOf : GoodIn wsX4_passTo (wsV RX4 84 RX4 yX4_partOf wsX4_partOf) := goodIn_app (goodIn_of _ (by decide +kernel)) ggX4_passTo_X4_partOf
set_option maxRecDepth 20000 in
theorem ggX4_passTo_X4_enrich : GoodIn wsX4_passTo wsX4_enrich := goodIn_r _ [27, 28, 29, 30, 3, 31, 11, 12, 13, 14, 15, 16, 32, 33, 34, 35, 36, 37, 38, 39, 40, 41, 42, 43, 44, 45, 46, 47] (by decide +kernel) (by decide +kernel)
set_option maxRecDepth 20000 in
theorem gX4_passTo_X4_enrich : GoodIn wsX4_passTo (wsV RX4 88 RX4 yX4_enrich wsX4_enrich) := goodIn_app (goodIn_of _ (by decide +kernel)) ggX4_passTo_X4_enrich
theorem dX4_passTo_0 : decode cX4_passTo 0 = .ok (.aload_n 0, 1) := by decide +kernel
theorem dX4_passTo_1 : decode cX4_passTo 1 = .ok (.dup, 1) := by decide +kernel
theorem dX4_passTo_2 : decode cX4_passTo 2 = .ok (.getfield 45, 3) := by decide +kernel
theorem dX4_passTo_5 : decode cX4_passTo 5 = .ok (.iload_n 1, 1) := by decide +kernel
theorem dX4_passTo_6 : decode cX4_passTo 6 = .ok (.invokestatic 67, 3) := by decide +kernel
theorem dX4_passTo_9 : decode cX4_passTo 9 = .ok (.ior, 1) := by decide +kernel
theorem dX4_passTo_10 : decode cX4_passTo 10 = .ok (.putfield 45, 3) := by decide +kernel
theorem dX4_passTo_13 : decode cX4_passTo 13 = .ok (.aload_n 0, 1) := by decide +kernel
theorem dX4_passTo_14 : decode cX4_passTo 14 = .ok (.iload_n 2, 1) := by decide +kernel
theorem dX4_passTo_15 : decode cX4_passTo 15 = .ok (.aload_n 0, 1) := by decide +kernel
theorem dX4_passTo_16 : decode cX4_passTo 16 = .ok (.iload_n 1, 1) := by decide +kernel
theorem dX4_passTo_17 : decode cX4_passTo 17 = .ok (.iload_n 2, 1) := by decide +kernel
theorem dX4_passTo_18 : decode cX4_passTo 18 = .ok (.invokevirtual 84, 3) := by decide +kernel
theorem dX4_passTo_21 : decode cX4_passTo 21 = .ok (.invokevirtual 88, 3) := by decide +kernel
theorem dX4_passTo_24 : decode cX4_passTo 24 = .ok (.return_, 1) := by decide +kernel
set_option maxRecDepth 20000 in
theorem ggX4_takeBackFrom_X5_bit : GoodIn wsX4_takeBackFrom wsX5_bit := goodIn_r _ [4] (by decide +kernel) (by decide +kernel)
set_option maxRecDepth 20000 in
theorem gX4_takeBackFrom_X5_bit_n67 : GoodIn wsX4_takeBackFrom (wsX5_bit) := ggX4_takeBackFrom_X5_bit
set_option maxRecDepth 20000 in
theorem ggX4_takeBackFrom_X4_partOf : GoodIn wsX4_takeBackFrom wsX4_partOf := goodIn_r _ [9, 10, 11, 12, 13, 14, 15, 16, 17, 18, 19, 20, 21, 22, 23, 36, 37, 38, 39, 40, 41, 42, 43, 44, 45, 46, 47] (by decide +kernel) (by decide +kernel)
set_option maxRecDepth 20000 in
theorem gX4_takeBackFrom_X4_partOf : GoodIn wsX4_takeBackFrom (wsV RX4 84 RX4 yX4_partOf wsX4_partOf) := goodIn_app (goodIn_of _ (by decide +kernel)) ggX4_takeBackFrom_X4_partOf
set_option maxRecDepth 20000 in
theorem ggX4_takeBackFrom_X4_enrich : GoodIn wsX4_takeBackFrom wsX4_enrich := goodIn_r _ [27, 28, 29, 30, 3, 31, 11, 12, 13, 14, 15, 16, 32, 33, 34, 35, 36, 37, 38, 39, 40, 41, 42, 43, 44, 45, 46, 47] (by decide +kernel) (by decide +kernel)
set_option maxRecDepth 20000 in
theorem gX4_takeBackFrom_X4_enrich : GoodIn wsX4_takeBackFrom (wsV RX4 88 RX4 yX4_enrich wsX4_enrich) := goodIn_app (goodIn_of _ (by decide +kernel)) ggX4_takeBackFrom_X4_enrich
theorem dX4_takeBackFrom_0 : decode cX4_takeBackFrom 0 = .ok (.aload_n 0, 1) := by decide +kernel
theorem dX4_takeBackFrom_1 : decode cX4_takeBackFrom 1 = .ok (.dup, 1) := by decide +kernel
theorem dX4_takeBackFrom_2 : decode cX4_takeBackFrom 2 = .ok (.getfield 45, 3) := by decide +kernel
theorem dX4_takeBackFrom_5 : decode cX4_takeBackFrom 5 = .ok (.iload_n 1, 1) := by decide +kernel
theorem dX4_takeBackFrom_6 : decode cX4_takeBackFrom 6 = .ok (.invokestatic 67, 3) := by decide +kernel
theorem dX4_takeBackFrom_9 : decode cX4_takeBackFrom 9 = .ok (.iconst (-1), 1) := by decide +kernel
theorem dX4_takeBackFrom_10 : decode cX4_takeBackFrom 10 = .ok (.ixor, 1) := by decide +kernel
theorem dX4_takeBackFrom_11 : decode cX4_takeBackFrom 11 = .ok (.iand, 1) := by decide +kernel
theorem dX4_takeBackFrom_12 : decode cX4_takeBackFrom 12 = .ok (.putfield 45, 3) := by decide +kernel
theorem dX4_takeBackFrom_15 : decode cX4_takeBackFrom 15 = .ok (.aload_n 0, 1) := by decide +kernel
theorem dX4_takeBackFrom_16 : decode cX4_takeBackFrom 16 = .ok (.iload_n 2, 1) := by decide +kernel
theorem dX4_takeBackFrom_17 : decode cX4_takeBackFrom 17 = .ok (.aload_n 0, 1) := by decide +kernel
theorem dX4_takeBackFrom_18 : decode cX4_takeBackFrom 18 = .ok (.iload_n 1, 1) := by decide +kernel
theorem dX4_takeBackFrom_19 : decode cX4_takeBackFrom 19 = .ok (.iload_n 2, 1) := by decide +kernel
theorem dX4_takeBackFrom_20 : decode cX4_takeBackFrom 20 = .ok (.invokevirtual 84, 3) := by decide +kernel
theorem dX4_takeBackFrom_23 : decode cX4_takeBackFrom 23 = .ok (.ineg, 1) := by decide +kernel
theorem dX4_takeBackFrom_24 : decode cX4_takeBackFrom 24 = .ok (.invokevirtual 88, 3) := by decide +kernel
theorem dX4_takeBackFrom_27 : decode cX4_takeBackFrom 27 = .ok (.return_, 1) := by decide +kernel
set_option maxRecDepth 20000 in
theorem ggX4_enrich_X5_isIn : GoodIn wsX4_enrich wsX5_isIn := goodIn_r _ [5] (by decide +kernel) (by decide +kernel)
set_option maxRecDepth 20000 in
theorem gX4_enrich_X5_isIn_n59 : GoodIn wsX4_enrich (wsX5_isIn) := ggX4_enrich_X5_isIn
set_option maxRecDepth 20000 in
theorem ggX4_enrich_X1_get : GoodIn wsX4_enrich wsX1_get := goodIn_r _ [10, 11, 27] (by decide +kernel) (by decide +kernel)
set_option maxRecDepth 20000 in
theorem gX4_enrich_X1_get : GoodIn wsX4_enrich (wsV RX4 63 RX1 yX1_get wsX1_get) := goodIn_app (goodIn_of _ (by decide +kernel)) ggX4_enrich_X1_get
set_option maxRecDepth 20000 in
theorem ggX4_enrich_X1_set : GoodIn wsX4_enrich wsX1_set := goodIn_r _ [15, 11, 27] (by decide +kernel) (by decide +kernel)
set_option maxRecDepth 20000 in
theorem gX4_enrich_X1_set : GoodIn wsX4_enrich (wsV RX4 73 RX1 yX1_set wsX1_set) := goodIn_app (goodIn_of _ (by decide +kernel)) ggX4_enrich_X1_set
theorem dX4_enrich_0 : decode cX4_enrich 0 = .ok (.iconst 0, 1) := by decide +kernel
theorem dX4_enrich_1 : decode cX4_enrich 1 = .ok (.istore_n 3, 1) := by decide +kernel
theorem dX4_enrich_2 : decode cX4_enrich 2 = .ok (.iload_n 3, 1) := by decide +kernel
theorem dX4_enrich_3 : decode cX4_enrich 3 = .ok (.aload_n 0, 1) := by decide +kernel
theorem dX4_enrich_4 : decode cX4_enrich 4 = .ok (.getfield 36, 3) := by decide +kernel
theorem dX4_enrich_7 : decode cX4_enrich 7 = .ok (.if_icmp .ge 35, 3) := by decide +kernel
theorem dX4_enrich_10 : decode cX4_enrich 10 = .ok (.iload_n 1, 1) := by decide +kernel
theorem dX4_enrich_11 : decode cX4_enrich 11 = .ok (.iload_n 3, 1) := by decide +kernel
theorem dX4_enrich_12 : decode cX4_enrich 12 = .ok (.invokestatic 59, 3) := by decide +kernel
theorem dX4_enrich_15 : decode cX4_enrich 15 = .ok (.ifCond .eq 21, 3) := by decide +kernel
theorem dX4_enrich_18 : decode cX4_enrich 18 = .ok (.aload_n 0, 1) := by decide +kernel
theorem dX4_enrich_19 : decode cX4_enrich 19 = .ok (.getfield 29, 3) := by decide +kernel
theorem dX4_enrich_22 : decode cX4_enrich 22 = .ok (.iload_n 3, 1) := by decide +kernel
theorem dX4_enrich_23 : decode cX4_enrich 23 = .ok (.aload_n 0, 1) := by decide +kernel
theorem dX4_enrich_24 : decode cX4_enrich 24 = .ok (.getfield 29, 3) := by decide +kernel
theorem dX4_enrich_27 : decode cX4_enrich 27 = .ok (.iload_n 3, 1) := by decide +kernel
theorem dX4_enrich_28 : decode cX4_enrich 28 = .ok (.invokevirtual 63, 3) := by decide +kernel
theorem dX4_enrich_31 : decode cX4_enrich 31 = .ok (.iload_n 2, 1) := by decide +kernel
theorem dX4_enrich_32 : decode cX4_enrich 32 = .ok (.iadd, 1) := by decide +kernel
theorem dX4_enrich_33 : decode cX4_enrich 33 = .ok (.invokevirtual 73, 3) := by decide +kernel
theorem dX4_enrich_36 : decode cX4_enrich 36 = .ok (.iinc 3 1, 3) := by decide +kernel
theorem dX4_enrich_39 : decode cX4_enrich 39 = .ok (.goto (-37), 3) := by decide +kernel
theorem dX4_enrich_42 : decode cX4_enrich 42 = .ok (.return_, 1) := by decide +kernel
set_option maxRecDepth 20000 in
theorem ggX4_doTold_X4_isAlive : GoodIn wsX4_doTold wsX4_isAlive := goodIn_r _ [6, 7, 8, 9, 10, 5, 11, 12, 13, 14, 15, 91, 92, 93, 94, 95, 96, 97, 98, 99, 100, 101] (by decide +kernel) (by decide +kernel)
set_option maxRecDepth 20000 in
theorem gX4_doTold_X4_isAlive : GoodIn wsX4_doTold (wsV RX4 70 RX4 yX4_isAlive wsX4_isAlive) := goodIn_app (goodIn_of _ (by decide +kernel)) ggX4_doTold_X4_isAlive
set_option maxRecDepth 20000 in
theorem ggX4_doTold_X4_flipLife : GoodIn wsX4_doTold wsX4_flipLife := goodIn_r _ [19, 7, 20, 14, 21, 91, 92, 93, 94, 95, 96, 97, 98, 99, 100, 101] (by decide +kernel) (by decide +kernel)
set_option maxRecDepth 20000 in
theorem gX4_doTold_X4_flipLife : GoodIn wsX4_doTold (wsV RX4 91 RX4 yX4_flipLife wsX4_flipLife) := goodIn_app (goodIn_of _ (by decide +kernel)) ggX4_doTold_X4_flipLife
set_option maxRecDepth 20000 in
theorem ggX4_doTold_X4_hasHouse : GoodIn wsX4_doTold wsX4_hasHouse := goodIn_r _ [25, 26, 91, 92, 93, 94, 95, 96, 97, 98, 99, 100, 101] (by decide +kernel) (by decide +kernel)
set_option maxRecDepth 20000 in
theorem gX4_doTold_X4_hasHouse : GoodIn wsX4_doTold (wsV RX4 77 RX4 yX4_hasHouse wsX4_hasHouse) := goodIn_app (goodIn_of _ (by decide +kernel)) ggX4_doTold_X4_hasHouse
set_option maxRecDepth 20000 in
theorem ggX4_doTold_X4_flipSide : GoodIn wsX4_doTold wsX4_flipSide := goodIn_r _ [30, 31, 20, 14, 21, 91, 92, 93, 94, 95, 96, 97, 98, 99, 100, 101] (by decide +kernel) (by decide +kernel)
set_option maxRecDepth 20000 in
theorem gX4_doTold_X4_flipSide : GoodIn wsX4_doTold (wsV RX4 94 RX4 yX4_flipSide wsX4_flipSide) := goodIn_app (goodIn_of _ (by decide +kernel)) ggX4_doTold_X4_flipSide
set_option maxRecDepth 20000 in
theorem ggX4_doTold_X4_canPass : GoodIn wsX4_doTold wsX4_canPass := goodIn_r _ [35, 36, 7, 22, 23, 24, 5, 25, 26, 13, 14, 15, 37, 38, 39, 40, 12, 41, 42, 43, 44, 45, 46, 47, 48, 20, 21, 49, 50, 51, 52, 53, 54, 55, 56, 57, 91, 92, 93, 94, 95, 96, 97, 98, 99, 100, 101, 102] (by decide +kernel) (by decide +kernel)
set_option maxRecDepth 20000 in
theorem gX4_doTold_X4_canPass : GoodIn wsX4_doTold (wsV RX4 97 RX4 yX4_canPass wsX4_canPass) := goodIn_app (goodIn_of _ (by decide +kernel)) ggX4_doTold_X4_canPass
set_option maxRecDepth 20000 in
theorem ggX4_doTold_X4_heirsOf : GoodIn wsX4_doTold wsX4_heirsOf := goodIn_r _ [61, 7, 62, 63, 64, 5, 65, 31, 13, 14, 15, 37, 38, 39, 40, 12, 41, 42, 43, 44, 45, 46, 47, 48, 20, 21, 49, 50, 51, 52, 53, 54, 55, 56, 57, 91, 92, 93, 94, 95, 96, 97, 98, 99, 100, 101, 102] (by decide +kernel) (by decide +kernel)
set_option maxRecDepth 20000 in
theorem gX4_doTold_X4_heirsOf : GoodIn wsX4_doTold (wsV RX4 100 RX4 yX4_heirsOf wsX4_heirsOf) := goodIn_app (goodIn_of _ (by decide +kernel)) ggX4_doTold_X4_heirsOf
set_option maxRecDepth 20000 in
theorem ggX4_doTold_X4_passTo : GoodIn wsX4_doTold wsX4_passTo := goodIn_r _ [69, 36, 20, 14, 21, 70, 71, 72, 5, 73, 74, 43, 44, 45, 46, 47, 48, 75, 76, 77, 78, 79, 80, 81, 82, 83, 84, 85, 12, 86, 13, 15, 87, 88, 89, 90, 91, 92, 93, 94, 95, 96, 97, 98, 99, 100, 101, 102] (by decide +kernel) (by decide +kernel)
set_option maxRecDepth 20000 in
theorem gX4_doTold_X4_passTo : GoodIn wsX4_doTold (wsV RX4 103 RX4 yX4_passTo wsX4_passTo) := goodIn_app (goodIn_of _ (by decide +kernel)) ggX4_doTold_X4_passTo
theorem dX4_doTold_0 : decode cX4_doTold 0 = .ok (.iload_n 1, 1) := by decide +kernel
theorem dX4_doTold_1 : decode cX4_doTold 1 = .ok (.tableswitch 105 0 3 #[31, 49, 66, 83], 31) := by decide +kernel
theorem dX4_doTold_32 : decode cX4_doTold 32 = .ok (.iload_n 2, 1) := by decide +kernel
theorem dX4_doTold_33 : decode cX4_doTold 33 = .ok (.ifCond .eq 5, 3) := by decide +kernel
theorem dX4_doTold_36 : decode cX4_doTold 36 = .ok (.iconst 0, 1) := by decide +kernel
theorem dX4_doTold_37 : decode cX4_doTold 37 = .ok (.ireturn, 1) := by decide +kernel
theorem dX4_doTold_38 : decode cX4_doTold 38 = .ok (.aload_n 0, 1) := by decide +kernel
theorem dX4_doTold_39 : decode cX4_doTold 39 = .ok (.dup, 1) := by decide +kernel
theorem dX4_doTold_40 : decode cX4_doTold 40 = .ok (.getfield 48, 3) := by decide +kernel
theorem dX4_doTold_43 : decode cX4_doTold 43 = .ok (.iconst 1, 1) := by decide +kernel
theorem dX4_doTold_44 : decode cX4_doTold 44 = .ok (.iadd, 1) := by decide +kernel
theorem dX4_doTold_45 : decode cX4_doTold 45 = .ok (.putfield 48, 3) := by decide +kernel
theorem dX4_doTold_48 : decode cX4_doTold 48 = .ok (.iconst 1, 1) := by decide +kernel
theorem dX4_doTold_49 : decode cX4_doTold 49 = .ok (.ireturn, 1) := by decide +kernel
theorem dX4_doTold_50 : decode cX4_doTold 50 = .ok (.aload_n 0, 1) := by decide +kernel
theorem dX4_doTold_51 : decode cX4_doTold 51 = .ok (.iload_n 2, 1) := by decide +kernel
theorem dX4_doTold_52 : decode cX4_doTold 52 = .ok (.invokevirtual 70, 3) := by decide +kernel
theorem dX4_doTold_55 : decode cX4_doTold 55 = .ok (.ifCond .ne 5, 3) := by decide +kernel
theorem dX4_doTold_58 : decode cX4_doTold 58 = .ok (.iconst 0, 1) := by decide +kernel
theorem dX4_doTold_59 : decode cX4_doTold 59 = .ok (.ireturn, 1) := by decide +kernel
theorem dX4_doTold_60 : decode cX4_doTold 60 = .ok (.aload_n 0, 1) := by decide +kernel
theorem dX4_doTold_61 : decode cX4_doTold 61 = .ok (.iload_n 2, 1) := by decide +kernel
theorem dX4_doTold_62 : decode cX4_doTold 62 = .ok (.invokevirtual 91, 3) := by decide +kernel
theorem dX4_doTold_65 : decode cX4_doTold 65 = .ok (.iconst 1, 1) := by decide +kernel
theorem dX4_doTold_66 : decode cX4_doTold 66 = .ok (.ireturn, 1) := by decide +kernel
theorem dX4_doTold_67 : decode cX4_doTold 67 = .ok (.aload_n 0, 1) := by decide +kernel
theorem dX4_doTold_68 : decode cX4_doTold 68 = .ok (.iload_n 2, 1) := by decide +kernel
theorem dX4_doTold_69 : decode cX4_doTold 69 = .ok (.invokevirtual 77, 3) := by decide +kernel
theorem dX4_doTold_72 : decode cX4_doTold 72 = .ok (.ifCond .ne 5, 3) := by decide +kernel
theorem dX4_doTold_75 : decode cX4_doTold 75 = .ok (.iconst 0, 1) := by decide +kernel
theorem dX4_doTold_76 : decode cX4_doTold 76 = .ok (.ireturn, 1) := by decide +kernel
theorem dX4_doTold_77 : decode cX4_doTold 77 = .ok (.aload_n 0, 1) := by decide +kernel
theorem dX4_doTold_78 : decode cX4_doTold 78 = .ok (.iload_n 2, 1) := by decide +kernel
theorem dX4_doTold_79 : decode cX4_doTold 79 = .ok (.invokevirtual 94, 3) := by decide +kernel
theorem dX4_doTold_82 : decode cX4_doTold 82 = .ok (.iconst 1, 1) := by decide +kernel
theorem dX4_doTold_83 : decode cX4_doTold 83 = .ok (.ireturn, 1) := by decide +kernel
theorem dX4_doTold_84 : decode cX4_doTold 84 = .ok (.aload_n 0, 1) := by decide +kernel
theorem dX4_doTold_85 : decode cX4_doTold 85 = .ok (.iload_n 2, 1) := by decide +kernel
theorem dX4_doTold_86 : decode cX4_doTold 86 = .ok (.invokevirtual 97, 3) := by decide +kernel
theorem dX4_doTold_89 : decode cX4_doTold 89 = .ok (.ifCond .ne 5, 3) := by decide +kernel
theorem dX4_doTold_92 : decode cX4_doTold 92 = .ok (.iconst 0, 1) := by decide +kernel
theorem dX4_doTold_93 : decode cX4_doTold 93 = .ok (.ireturn, 1) := by decide +kernel
theorem dX4_doTold_94 : decode cX4_doTold 94 = .ok (.aload_n 0, 1) := by decide +kernel
theorem dX4_doTold_95 : decode cX4_doTold 95 = .ok (.iload_n 2, 1) := by decide +kernel
theorem dX4_doTold_96 : decode cX4_doTold 96 = .ok (.aload_n 0, 1) := by decide +kernel
theorem dX4_doTold_97 : decode cX4_doTold 97 = .ok (.iload_n 2, 1) := by decide +kernel
theorem dX4_doTold_98 : decode cX4_doTold 98 = .ok (.invokevirtual 100, 3) := by decide +kernel
theorem dX4_doTold_101 : decode cX4_doTold 101 = .ok (.invokevirtual 103, 3) := by decide +kernel
theorem dX4_doTold_104 : decode cX4_doTold 104 = .ok (.iconst 1, 1) := by decide +kernel
theorem dX4_doTold_105 : decode cX4_doTold 105 = .ok (.ireturn, 1) := by decide +kernel
theorem dX4_doTold_106 : decode cX4_doTold 106 = .ok (.iconst 0, 1) := by decide +kernel
theorem dX4_doTold_107 : decode cX4_doTold 107 = .ok (.ireturn, 1) := by decide +kernel
set_option maxRecDepth 20000 in
theorem ggX4_stir_X4_isAlive : GoodIn wsX4_stir wsX4_isAlive := goodIn_r _ [6, 7, 8, 9, 10, 5, 11, 12, 13, 14, 15, 32, 33, 34, 35, 36, 37, 38, 39, 40, 41, 42] (by decide +kernel) (by decide +kernel)
set_option maxRecDepth 20000 in
theorem gX4_stir_X4_isAlive : GoodIn wsX4_stir (wsV RX4 70 RX4 yX4_isAlive wsX4_isAlive) := goodIn_app (goodIn_of _ (by decide +kernel)) ggX4_stir_X4_isAlive
set_option maxRecDepth 20000 in
theorem ggX4_stir_X4_flipLife : GoodIn wsX4_stir wsX4_flipLife := goodIn_r _ [19, 7, 20, 14, 21, 32, 33, 34, 35, 36, 37, 38, 39, 40, 41, 42] (by decide +kernel) (by decide +kernel)
set_option maxRecDepth 20000 in
theorem gX4_stir_X4_flipLife : GoodIn wsX4_stir (wsV RX4 91 RX4 yX4_flipLife wsX4_flipLife) := goodIn_app (goodIn_of _ (by decide +kernel)) ggX4_stir_X4_flipLife
set_option maxRecDepth 20000 in
theorem ggX4_stir_X4_hasHouse : GoodIn wsX4_stir wsX4_hasHouse := goodIn_r _ [25, 26, 32, 33, 34, 35, 36, 37, 38, 39, 40, 41, 42] (by decide +kernel) (by decide +kernel)
set_option maxRecDepth 20000 in
theorem gX4_stir_X4_hasHouse : GoodIn wsX4_stir (wsV RX4 77 RX4 yX4_hasHouse wsX4_hasHouse) := goodIn_app (goodIn_of _ (by decide +kernel)) ggX4_stir_X4_hasHouse
set_option maxRecDepth 20000 in
theorem ggX4_stir_X4_flipSide : GoodIn wsX4_stir wsX4_flipSide := goodIn_r _ [30, 31, 20, 14, 21, 32, 33, 34, 35, 36, 37, 38, 39, 40, 41, 42] (by decide +kernel) (by decide +kernel)
set_option maxRecDepth 20000 in
theorem gX4_stir_X4_flipSide : GoodIn wsX4_stir (wsV RX4 94 RX4 yX4_flipSide wsX4_flipSide) := goodIn_app (goodIn_of _ (by decide +kernel)) ggX4_stir_X4_flipSide
theorem dX4_stir_0 : decode cX4_stir 0 = .ok (.iload_n 1, 1) := by decide +kernel
theorem dX4_stir_1 : decode cX4_stir 1 = .ok (.bipush 7, 2) := by decide +kernel
theorem dX4_stir_3 : decode cX4_stir 3 = .ok (.if_icmp .ge 19, 3) := by decide +kernel
theorem dX4_stir_6 : decode cX4_stir 6 = .ok (.aload_n 0, 1) := by decide +kernel
theorem dX4_stir_7 : decode cX4_stir 7 = .ok (.iload_n 1, 1) := by decide +kernel
theorem dX4_stir_8 : decode cX4_stir 8 = .ok (.invokevirtual 70, 3) := by decide +kernel
theorem dX4_stir_11 : decode cX4_stir 11 = .ok (.ifCond .eq 49, 3) := by decide +kernel
theorem dX4_stir_14 : decode cX4_stir 14 = .ok (.aload_n 0, 1) := by decide +kernel
theorem dX4_stir_15 : decode cX4_stir 15 = .ok (.iload_n 1, 1) := by decide +kernel
theorem dX4_stir_16 : decode cX4_stir 16 = .ok (.invokevirtual 91, 3) := by decide +kernel
theorem dX4_stir_19 : decode cX4_stir 19 = .ok (.goto 41, 3) := by decide +kernel
theorem dX4_stir_22 : decode cX4_stir 22 = .ok (.iload_n 1, 1) := by decide +kernel
theorem dX4_stir_23 : decode cX4_stir 23 = .ok (.bipush 10, 2) := by decide +kernel
theorem dX4_stir_25 : decode cX4_stir 25 = .ok (.if_icmp .ge 25, 3) := by decide +kernel
theorem dX4_stir_28 : decode cX4_stir 28 = .ok (.aload_n 0, 1) := by decide +kernel
theorem dX4_stir_29 : decode cX4_stir 29 = .ok (.iload_n 1, 1) := by decide +kernel
theorem dX4_stir_30 : decode cX4_stir 30 = .ok (.bipush 7, 2) := by decide +kernel
theorem dX4_stir_32 : decode cX4_stir 32 = .ok (.isub, 1) := by decide +kernel
theorem dX4_stir_33 : decode cX4_stir 33 = .ok (.invokevirtual 77, 3) := by decide +kernel
theorem dX4_stir_36 : decode cX4_stir 36 = .ok (.ifCond .eq 24, 3) := by decide +kernel
theorem dX4_stir_39 : decode cX4_stir 39 = .ok (.aload_n 0, 1) := by decide +kernel
theorem dX4_stir_40 : decode cX4_stir 40 = .ok (.iload_n 1, 1) := by decide +kernel
theorem dX4_stir_41 : decode cX4_stir 41 = .ok (.bipush 7, 2) := by decide +kernel
theorem dX4_stir_43 : decode cX4_stir 43 = .ok (.isub, 1) := by decide +kernel
theorem dX4_stir_44 : decode cX4_stir 44 = .ok (.invokevirtual 94, 3) := by decide +kernel
theorem dX4_stir_47 : decode cX4_stir 47 = .ok (.goto 13, 3) := by decide +kernel
theorem dX4_stir_50 : decode cX4_stir 50 = .ok (.aload_n 0, 1) := by decide +kernel
theorem dX4_stir_51 : decode cX4_stir 51 = .ok (.dup, 1) := by decide +kernel
theorem dX4_stir_52 : decode cX4_stir 52 = .ok (.getfield 48, 3) := by decide +kernel
theorem dX4_stir_55 : decode cX4_stir 55 = .ok (.iconst 1, 1) := by decide +kernel
theorem dX4_stir_56 : decode cX4_stir 56 = .ok (.iadd, 1) := by decide +kernel
theorem dX4_stir_57 : decode cX4_stir 57 = .ok (.putfield 48, 3) := by decide +kernel
theorem dX4_stir_60 : decode cX4_stir 60 = .ok (.return_, 1) := by decide +kernel
set_option maxRecDepth 20000 in
theorem ggX4_heirsOf_X4_sideOf : GoodIn wsX4_heirsOf wsX4_sideOf := goodIn_r _ [6, 7, 8, 9, 10, 35, 36, 37, 38, 39, 40, 41, 42, 43, 44, 45] (by decide +kernel) (by decide +kernel)
set_option maxRecDepth 20000 in
theorem gX4_heirsOf_X4_sideOf : GoodIn wsX4_heirsOf (wsV RX4 106 RX4 yX4_sideOf wsX4_sideOf) := goodIn_app (goodIn_of _ (by decide +kernel)) ggX4_heirsOf_X4_sideOf
set_option maxRecDepth 20000 in
theorem ggX4_heirsOf_X4_heirsAmong : GoodIn wsX4_heirsOf wsX4_heirsAmong := goodIn_r _ [14, 15, 16, 17, 18, 19, 20, 21, 22, 23, 8, 9, 10, 24, 25, 26, 27, 28, 5, 29, 30, 31, 32, 33, 34, 35, 36, 37, 38, 39, 40, 41, 42, 43, 44, 45, 46] (by decide +kernel) (by decide +kernel)
set_option maxRecDepth 20000 in
theorem gX4_heirsOf_X4_heirsAmong : GoodIn wsX4_heirsOf (wsV RX4 80 RX4 yX4_heirsAmong wsX4_heirsAmong) := goodIn_app (goodIn_of _ (by decide +kernel)) ggX4_heirsOf_X4_heirsAmong
theorem dX4_heirsOf_0 : decode cX4_heirsOf 0 = .ok (.aload_n 0, 1) := by decide +kernel
theorem dX4_heirsOf_1 : decode cX4_heirsOf 1 = .ok (.iload_n 1, 1) := by decide +kernel
theorem dX4_heirsOf_2 : decode cX4_heirsOf 2 = .ok (.aload_n 0, 1) := by decide +kernel
theorem dX4_heirsOf_3 : decode cX4_heirsOf 3 = .ok (.iload_n 1, 1) := by decide +kernel
theorem dX4_heirsOf_4 : decode cX4_heirsOf 4 = .ok (.invokevirtual 106, 3) := by decide +kernel
theorem dX4_heirsOf_7 : decode cX4_heirsOf 7 = .ok (.aload_n 0, 1) := by decide +kernel
theorem dX4_heirsOf_8 : decode cX4_heirsOf 8 = .ok (.getfield 39, 3) := by decide +kernel
theorem dX4_heirsOf_11 : decode cX4_heirsOf 11 = .ok (.invokevirtual 80, 3) := by decide +kernel
theorem dX4_heirsOf_14 : decode cX4_heirsOf 14 = .ok (.ireturn, 1) := by decide +kernel
set_option maxRecDepth 20000 in
theorem ggX4_heirsAmong_X1_get : GoodIn wsX4_heirsAmong wsX1_get := goodIn_r _ [8, 9, 36] (by decide +kernel) (by decide +kernel)
set_option maxRecDepth 20000 in
theorem gX4_heirsAmong_X1_get : GoodIn wsX4_heirsAmong (wsV RX4 63 RX1 yX1_get wsX1_get) := goodIn_app (goodIn_of _ (by decide +kernel)) ggX4_heirsAmong_X1_get
set_option maxRecDepth 20000 in
theorem ggX4_heirsAmong_X5_isIn : GoodIn wsX4_heirsAmong wsX5_isIn := goodIn_r _ [12] (by decide +kernel) (by decide +kernel)
set_option maxRecDepth 20000 in
theorem gX4_heirsAmong_X5_isIn_n59 : GoodIn wsX4_heirsAmong (wsX5_isIn) := ggX4_heirsAmong_X5_isIn
set_option maxRecDepth 20000 in
theorem ggX4_heirsAmong_X5_bit : GoodIn wsX4_heirsAmong wsX5_bit := goodIn_r _ [14] (by decide +kernel) (by decide +kernel)
set_option maxRecDepth 20000 in
theorem gX4_heirsAmong_X5_bit_n67 : GoodIn wsX4_heirsAmong (wsX5_bit) := ggX4_heirsAmong_X5_bit
set_option maxRecDepth 20000 in
theorem ggX4_heirsAmong_X4_firstOf : GoodIn wsX4_heirsAmong wsX4_firstOf := goodIn_r _ [19, 1, 10, 11, 12, 20, 21, 22, 18, 23, 24, 3, 4, 5, 6, 7, 8, 9, 13, 14, 25, 26, 27, 28, 29, 30, 31, 32, 33, 34, 35, 36] (by decide +kernel) (by decide +kernel)
set_option maxRecDepth 20000 in
theorem gX4_heirsAmong_X4_firstOf : GoodIn wsX4_heirsAmong (wsV RX4 109 RX4 yX4_firstOf wsX4_firstOf) := goodIn_app (goodIn_of _ (by decide +kernel)) ggX4_heirsAmong_X4_firstOf
theorem dX4_heirsAmong_0 : decode cX4_heirsAmong 0 = .ok (.iconst 0, 1) := by decide +kernel
theorem dX4_heirsAmong_1 : decode cX4_heirsAmong 1 = .ok (.istore 4, 2) := by decide +kernel
theorem dX4_heirsAmong_3 : decode cX4_heirsAmong 3 = .ok (.iconst 0, 1) := by decide +kernel
theorem dX4_heirsAmong_4 : decode cX4_heirsAmong 4 = .ok (.istore 5, 2) := by decide +kernel
theorem dX4_heirsAmong_6 : decode cX4_heirsAmong 6 = .ok (.iconst 0, 1) := by decide +kernel
theorem dX4_heirsAmong_7 : decode cX4_heirsAmong 7 = .ok (.istore 6, 2) := by decide +kernel
theorem dX4_heirsAmong_9 : decode cX4_heirsAmong 9 = .ok (.iconst 0, 1) := by decide +kernel
theorem dX4_heirsAmong_10 : decode cX4_heirsAmong 10 = .ok (.istore 7, 2) := by decide +kernel
theorem dX4_heirsAmong_12 : decode cX4_heirsAmong 12 = .ok (.iload 7, 2) := by decide +kernel
theorem dX4_heirsAmong_14 : decode cX4_heirsAmong 14 = .ok (.aload_n 0, 1) := by decide +kernel
theorem dX4_heirsAmong_15 : decode cX4_heirsAmong 15 = .ok (.getfield 36, 3) := by decide +kernel
theorem dX4_heirsAmong_18 : decode cX4_heirsAmong 18 = .ok (.if_icmp .ge 93, 3) := by decide +kernel
theorem dX4_heirsAmong_21 : decode cX4_heirsAmong 21 = .ok (.aload_n 0, 1) := by decide +kernel
theorem dX4_heirsAmong_22 : decode cX4_heirsAmong 22 = .ok (.getfield 23, 3) := by decide +kernel
theorem dX4_heirsAmong_25 : decode cX4_heirsAmong 25 = .ok (.iload 7, 2) := by decide +kernel
theorem dX4_heirsAmong_27 : decode cX4_heirsAmong 27 = .ok (.invokevirtual 63, 3) := by decide +kernel
theorem dX4_heirsAmong_30 : decode cX4_heirsAmong 30 = .ok (.iload_n 1, 1) := by decide +kernel
theorem dX4_heirsAmong_31 : decode cX4_heirsAmong 31 = .ok (.if_icmp .ne 74, 3) := by decide +kernel
theorem dX4_heirsAmong_34 : decode cX4_heirsAmong 34 = .ok (.iload_n 3, 1) := by decide +kernel
theorem dX4_heirsAmong_35 : decode cX4_heirsAmong 35 = .ok (.iload 7, 2) := by decide +kernel
theorem dX4_heirsAmong_37 : decode cX4_heirsAmong 37 = .ok (.invokestatic 59, 3) := by decide +kernel
theorem dX4_heirsAmong_40 : decode cX4_heirsAmong 40 = .ok (.ifCond .ne 6, 3) := by decide +kernel
theorem dX4_heirsAmong_43 : decode cX4_heirsAmong 43 = .ok (.goto 62, 3) := by decide +kernel
theorem dX4_heirsAmong_46 : decode cX4_heirsAmong 46 = .ok (.aload_n 0, 1) := by decide +kernel
theorem dX4_heirsAmong_47 : decode cX4_heirsAmong 47 = .ok (.getfield 26, 3) := by decide +kernel
theorem dX4_heirsAmong_50 : decode cX4_heirsAmong 50 = .ok (.iload 7, 2) := by decide +kernel
theorem dX4_heirsAmong_52 : decode cX4_heirsAmong 52 = .ok (.invokevirtual 63, 3) := by decide +kernel
theorem dX4_heirsAmong_55 : decode cX4_heirsAmong 55 = .ok (.istore 8, 2) := by decide +kernel
theorem dX4_heirsAmong_57 : decode cX4_heirsAmong 57 = .ok (.iload 8, 2) := by decide +kernel
theorem dX4_heirsAmong_59 : decode cX4_heirsAmong 59 = .ok (.iconst 2, 1) := by decide +kernel
theorem dX4_heirsAmong_60 : decode cX4_heirsAmong 60 = .ok (.if_icmp .ne 16, 3) := by decide +kernel
theorem dX4_heirsAmong_63 : decode cX4_heirsAmong 63 = .ok (.iload 5, 2) := by decide +kernel
theorem dX4_heirsAmong_65 : decode cX4_heirsAmong 65 = .ok (.iload 7, 2) := by decide +kernel
theorem dX4_heirsAmong_67 : decode cX4_heirsAmong 67 = .ok (.invokestatic 67, 3) := by decide +kernel
theorem dX4_heirsAmong_70 : decode cX4_heirsAmong 70 = .ok (.ior, 1) := by decide +kernel
theorem dX4_heirsAmong_71 : decode cX4_heirsAmong 71 = .ok (.istore 5, 2) := by decide +kernel
theorem dX4_heirsAmong_73 : decode cX4_heirsAmong 73 = .ok (.goto 32, 3) := by decide +kernel
theorem dX4_heirsAmong_76 : decode cX4_heirsAmong 76 = .ok (.iload 8, 2) := by decide +kernel
theorem dX4_heirsAmong_78 : decode cX4_heirsAmong 78 = .ok (.iconst 3, 1) := by decide +kernel
theorem dX4_heirsAmong_79 : decode cX4_heirsAmong 79 = .ok (.if_icmp .ne 16, 3) := by decide +kernel
theorem dX4_heirsAmong_82 : decode cX4_heirsAmong 82 = .ok (.iload 6, 2) := by decide +kernel
theorem dX4_heirsAmong_84 : decode cX4_heirsAmong 84 = .ok (.iload 7, 2) := by decide +kernel
theorem dX4_heirsAmong_86 : decode cX4_heirsAmong 86 = .ok (.invokestatic 67, 3) := by decide +kernel
theorem dX4_heirsAmong_89 : decode cX4_heirsAmong 89 = .ok (.ior, 1) := by decide +kernel
theorem dX4_heirsAmong_90 : decode cX4_heirsAmong 90 = .ok (.istore 6, 2) := by decide +kernel
theorem dX4_heirsAmong_92 : decode cX4_heirsAmong 92 = .ok (.goto 13, 3) := by decide +kernel
theorem dX4_heirsAmong_95 : decode cX4_heirsAmong 95 = .ok (.iload 4, 2) := by decide +kernel
theorem dX4_heirsAmong_97 : decode cX4_heirsAmong 97 = .ok (.iload 7, 2) := by decide +kernel
theorem dX4_heirsAmong_99 : decode cX4_heirsAmong 99 = .ok (.invokestatic 67, 3) := by decide +kernel
theorem dX4_heirsAmong_102 : decode cX4_heirsAmong 102 = .ok (.ior, 1) := by decide +kernel
theorem dX4_heirsAmong_103 : decode cX4_heirsAmong 103 = .ok (.istore 4, 2) := by decide +kernel
theorem dX4_heirsAmong_105 : decode cX4_heirsAmong 105 = .ok (.iinc 7 1, 3) := by decide +kernel
theorem dX4_heirsAmong_108 : decode cX4_heirsAmong 108 = .ok (.goto (-96), 3) := by decide +kernel
theorem dX4_heirsAmong_111 : decode cX4_heirsAmong 111 = .ok (.iload 4, 2) := by decide +kernel
theorem dX4_heirsAmong_113 : decode cX4_heirsAmong 113 = .ok (.ifCond .eq 19, 3) := by decide +kernel
theorem dX4_heirsAmong_116 : decode cX4_heirsAmong 116 = .ok (.aload_n 0, 1) := by decide +kernel
theorem dX4_heirsAmong_117 : decode cX4_heirsAmong 117 = .ok (.iload 4, 2) := by decide +kernel
theorem dX4_heirsAmong_119 : decode cX4_heirsAmong 119 = .ok (.iload_n 2, 1) := by decide +kernel
theorem dX4_heirsAmong_120 : decode cX4_heirsAmong 120 = .ok (.ifCond .ne 7, 3) := by decide +kernel
theorem dX4_heirsAmong_123 : decode cX4_heirsAmong 123 = .ok (.iconst 1, 1) := by decide +kernel
theorem dX4_heirsAmong_124 : decode cX4_heirsAmong 124 = .ok (.goto 4, 3) := by decide +kernel
theorem dX4_heirsAmong_127 : decode cX4_heirsAmong 127 = .ok (.iconst 0, 1) := by decide +kernel
theorem dX4_heirsAmong_128 : decode cX4_heirsAmong 128 = .ok (.invokevirtual 109, 3) := by decide +kernel
theorem dX4_heirsAmong_131 : decode cX4_heirsAmong 131 = .ok (.ireturn, 1) := by decide +kernel
theorem dX4_heirsAmong_132 : decode cX4_heirsAmong 132 = .ok (.iload 5, 2) := by decide +kernel
theorem dX4_heirsAmong_134 : decode cX4_heirsAmong 134 = .ok (.ifCond .eq 8, 3) := by decide +kernel
theorem dX4_heirsAmong_137 : decode cX4_heirsAmong 137 = .ok (.iload 5, 2) := by decide +kernel
theorem dX4_heirsAmong_139 : decode cX4_heirsAmong 139 = .ok (.goto 10, 3) := by decide +kernel
theorem dX4_heirsAmong_142 : decode cX4_heirsAmong 142 = .ok (.aload_n 0, 1) := by decide +kernel
theorem dX4_heirsAmong_143 : decode cX4_heirsAmong 143 = .ok (.iload 6, 2) := by decide +kernel
theorem dX4_heirsAmong_145 : decode cX4_heirsAmong 145 = .ok (.iconst 1, 1) := by decide +kernel
theorem dX4_heirsAmong_146 : decode cX4_heirsAmong 146 = .ok (.invokevirtual 109, 3) := by decide +kernel
theorem dX4_heirsAmong_149 : decode cX4_heirsAmong 149 = .ok (.ireturn, 1) := by decide +kernel
set_option maxRecDepth 20000 in
theorem ggX4_firstOf_X5_isIn : GoodIn wsX4_firstOf wsX5_isIn := goodIn_r _ [4] (by decide +kernel) (by decide +kernel)
set_option maxRecDepth 20000 in
theorem gX4_firstOf_X5_isIn_n59 : GoodIn wsX4_firstOf (wsX5_isIn) := ggX4_firstOf_X5_isIn
set_option maxRecDepth 20000 in
theorem ggX4_firstOf_X4_isOlder : GoodIn wsX4_firstOf wsX4_isOlder := goodIn_r _ [9, 10, 11, 12, 13, 14, 15, 16, 17, 20, 21, 22, 23, 24, 25, 26, 27, 28, 29, 30, 31] (by decide +kernel) (by decide +kernel)
set_option maxRecDepth 20000 in
theorem gX4_firstOf_X4_isOlder : GoodIn wsX4_firstOf (wsV RX4 113 RX4 yX4_isOlder wsX4_isOlder) := goodIn_app (goodIn_of _ (by decide +kernel)) ggX4_firstOf_X4_isOlder
set_option maxRecDepth 20000 in
theorem ggX4_firstOf_X5_bit : GoodIn wsX4_firstOf wsX5_bit := goodIn_r _ [19] (by decide +kernel) (by decide +kernel)
set_option maxRecDepth 20000 in
theorem gX4_firstOf_X5_bit_n67 : GoodIn wsX4_firstOf (wsX5_bit) := ggX4_firstOf_X5_bit
theorem dX4_firstOf_0 : decode cX4_firstOf 0 = .ok (.iconst (-1), 1) := by decide +kernel
theorem dX4_firstOf_1 : decode cX4_firstOf 1 = .ok (.istore_n 3, 1) := by decide +kernel
theorem dX4_firstOf_2 : decode cX4_firstOf 2 = .ok (.iconst 0, 1) := by decide +kernel
theorem dX4_firstOf_3 : decode cX4_firstOf 3 = .ok (.istore 4, 2) := by decide +kernel
theorem dX4_firstOf_5 : decode cX4_firstOf 5 = .ok (.iload 4, 2) := by decide +kernel
theorem dX4_firstOf_7 : decode cX4_firstOf 7 = .ok (.aload_n 0, 1) := by decide +kernel
theorem dX4_firstOf_8 : decode cX4_firstOf 8 = .ok (.getfield 36, 3) := by decide +kernel
theorem dX4_firstOf_11 : decode cX4_firstOf 11 = .ok (.if_icmp .ge 36, 3) := by decide +kernel
theorem dX4_firstOf_14 : decode cX4_firstOf 14 = .ok (.iload_n 1, 1) := by decide +kernel
theorem dX4_firstOf_15 : decode cX4_firstOf 15 = .ok (.iload 4, 2) := by decide +kernel
theorem dX4_firstOf_17 : decode cX4_firstOf 17 = .ok (.invokestatic 59, 3) := by decide +kernel
theorem dX4_firstOf_20 : decode cX4_firstOf 20 = .ok (.ifCond .eq 21, 3) := by decide +kernel
theorem dX4_firstOf_23 : decode cX4_firstOf 23 = .ok (.iload_n 3, 1) := by decide +kernel
theorem dX4_firstOf_24 : decode cX4_firstOf 24 = .ok (.ifCond .lt 14, 3) := by decide +kernel
theorem dX4_firstOf_27 : decode cX4_firstOf 27 = .ok (.aload_n 0, 1) := by decide +kernel
theorem dX4_firstOf_28 : decode cX4_firstOf 28 = .ok (.iload 4, 2) := by decide +kernel
theorem dX4_firstOf_30 : decode cX4_firstOf 30 = .ok (.iload_n 3, 1) := by decide +kernel
theorem dX4_firstOf_31 : decode cX4_firstOf 31 = .ok (.invokevirtual 113, 3) := by decide +kernel
theorem dX4_firstOf_34 : decode cX4_firstOf 34 = .ok (.iload_n 2, 1) := by decide +kernel
theorem dX4_firstOf_35 : decode cX4_firstOf 35 = .ok (.if_icmp .ne 6, 3) := by decide +kernel
theorem dX4_firstOf_38 : decode cX4_firstOf 38 = .ok (.iload 4, 2) := by decide +kernel
theorem dX4_firstOf_40 : decode cX4_firstOf 40 = .ok (.istore_n 3, 1) := by decide +kernel
theorem dX4_firstOf_41 : decode cX4_firstOf 41 = .ok (.iinc 4 1, 3) := by decide +kernel
theorem dX4_firstOf_44 : decode cX4_firstOf 44 = .ok (.goto (-39), 3) := by decide +kernel
theorem dX4_firstOf_47 : decode cX4_firstOf 47 = .ok (.iload_n 3, 1) := by decide +kernel
theorem dX4_firstOf_48 : decode cX4_firstOf 48 = .ok (.ifCond .ge 7, 3) := by decide +kernel
theorem dX4_firstOf_51 : decode cX4_firstOf 51 = .ok (.iconst 0, 1) := by decide +kernel
theorem dX4_firstOf_52 : decode cX4_firstOf 52 = .ok (.goto 7, 3) := by decide +kernel
theorem dX4_firstOf_55 : decode cX4_firstOf 55 = .ok (.iload_n 3, 1) := by decide +kernel
theorem dX4_firstOf_56 : decode cX4_firstOf 56 = .ok (.invokestatic 67, 3) := by decide +kernel
theorem dX4_firstOf_59 : decode cX4_firstOf 59 = .ok (.ireturn, 1) := by decide +kernel
set_option maxRecDepth 20000 in
theorem ggX4_isOlder_X1_get : GoodIn wsX4_isOlder wsX1_get := goodIn_r _ [7, 8, 20] (by decide +kernel) (by decide +kernel)
set_option maxRecDepth 20000 in
theorem gX4_isOlder_X1_get : GoodIn wsX4_isOlder (wsV RX4 63 RX1 yX1_get wsX1_get) := goodIn_app (goodIn_of _ (by decide +kernel)) ggX4_isOlder_X1_get
theorem dX4_isOlder_0 : decode cX4_isOlder 0 = .ok (.aload_n 0, 1) := by decide +kernel
theorem dX4_isOlder_1 : decode cX4_isOlder 1 = .ok (.getfield 20, 3) := by decide +kernel
theorem dX4_isOlder_4 : decode cX4_isOlder 4 = .ok (.iload_n 1, 1) := by decide +kernel
theorem dX4_isOlder_5 : decode cX4_isOlder 5 = .ok (.invokevirtual 63, 3) := by decide +kernel
theorem dX4_isOlder_8 : decode cX4_isOlder 8 = .ok (.aload_n 0, 1) := by decide +kernel
theorem dX4_isOlder_9 : decode cX4_isOlder 9 = .ok (.getfield 20, 3) := by decide +kernel
theorem dX4_isOlder_12 : decode cX4_isOlder 12 = .ok (.iload_n 2, 1) := by decide +kernel
theorem dX4_isOlder_13 : decode cX4_isOlder 13 = .ok (.invokevirtual 63, 3) := by decide +kernel
theorem dX4_isOlder_16 : decode cX4_isOlder 16 = .ok (.if_icmp .eq 28, 3) := by decide +kernel
theorem dX4_isOlder_19 : decode cX4_isOlder 19 = .ok (.aload_n 0, 1) := by decide +kernel
theorem dX4_isOlder_20 : decode cX4_isOlder 20 = .ok (.getfield 20, 3) := by decide +kernel
theorem dX4_isOlder_23 : decode cX4_isOlder 23 = .ok (.iload_n 1, 1) := by decide +kernel
theorem dX4_isOlder_24 : decode cX4_isOlder 24 = .ok (.invokevirtual 63, 3) := by decide +kernel
theorem dX4_isOlder_27 : decode cX4_isOlder 27 = .ok (.aload_n 0, 1) := by decide +kernel
theorem dX4_isOlder_28 : decode cX4_isOlder 28 = .ok (.getfield 20, 3) := by decide +kernel
theorem dX4_isOlder_31 : decode cX4_isOlder 31 = .ok (.iload_n 2, 1) := by decide +kernel
theorem dX4_isOlder_32 : decode cX4_isOlder 32 = .ok (.invokevirtual 63, 3) := by decide +kernel
theorem dX4_isOlder_35 : decode cX4_isOlder 35 = .ok (.if_icmp .ge 7, 3) := by decide +kernel
theorem dX4_isOlder_38 : decode cX4_isOlder 38 = .ok (.iconst 1, 1) := by decide +kernel
theorem dX4_isOlder_39 : decode cX4_isOlder 39 = .ok (.goto 4, 3) := by decide +kernel
theorem dX4_isOlder_42 : decode cX4_isOlder 42 = .ok (.iconst 0, 1) := by decide +kernel
theorem dX4_isOlder_43 : decode cX4_isOlder 43 = .ok (.ireturn, 1) := by decide +kernel
theorem dX4_isOlder_44 : decode cX4_isOlder 44 = .ok (.aload_n 0, 1) := by decide +kernel
theorem dX4_isOlder_45 : decode cX4_isOlder 45 = .ok (.getfield 26, 3) := by decide +kernel
theorem dX4_isOlder_48 : decode cX4_isOlder 48 = .ok (.iload_n 1, 1) := by decide +kernel
theorem dX4_isOlder_49 : decode cX4_isOlder 49 = .ok (.invokevirtual 63, 3) := by decide +kernel
theorem dX4_isOlder_52 : decode cX4_isOlder 52 = .ok (.iconst 1, 1) := by decide +kernel
theorem dX4_isOlder_53 : decode cX4_isOlder 53 = .ok (.if_icmp .ne 7, 3) := by decide +kernel
theorem dX4_isOlder_56 : decode cX4_isOlder 56 = .ok (.iconst 1, 1) := by decide +kernel
theorem dX4_isOlder_57 : decode cX4_isOlder 57 = .ok (.goto 4, 3) := by decide +kernel
theorem dX4_isOlder_60 : decode cX4_isOlder 60 = .ok (.iconst 0, 1) := by decide +kernel
theorem dX4_isOlder_61 : decode cX4_isOlder 61 = .ok (.istore_n 3, 1) := by decide +kernel
theorem dX4_isOlder_62 : decode cX4_isOlder 62 = .ok (.iload_n 3, 1) := by decide +kernel
theorem dX4_isOlder_63 : decode cX4_isOlder 63 = .ok (.aload_n 0, 1) := by decide +kernel
theorem dX4_isOlder_64 : decode cX4_isOlder 64 = .ok (.getfield 26, 3) := by decide +kernel
theorem dX4_isOlder_67 : decode cX4_isOlder 67 = .ok (.iload_n 2, 1) := by decide +kernel
theorem dX4_isOlder_68 : decode cX4_isOlder 68 = .ok (.invokevirtual 63, 3) := by decide +kernel
theorem dX4_isOlder_71 : decode cX4_isOlder 71 = .ok (.iconst 1, 1) := by decide +kernel
theorem dX4_isOlder_72 : decode cX4_isOlder 72 = .ok (.if_icmp .ne 7, 3) := by decide +kernel
theorem dX4_isOlder_75 : decode cX4_isOlder 75 = .ok (.iconst 1, 1) := by decide +kernel
theorem dX4_isOlder_76 : decode cX4_isOlder 76 = .ok (.goto 4, 3) := by decide +kernel
theorem dX4_isOlder_79 : decode cX4_isOlder 79 = .ok (.iconst 0, 1) := by decide +kernel
theorem dX4_isOlder_80 : decode cX4_isOlder 80 = .ok (.if_icmp .eq 5, 3) := by decide +kernel
theorem dX4_isOlder_83 : decode cX4_isOlder 83 = .ok (.iload_n 3, 1) := by decide +kernel
theorem dX4_isOlder_84 : decode cX4_isOlder 84 = .ok (.ireturn, 1) := by decide +kernel
theorem dX4_isOlder_85 : decode cX4_isOlder 85 = .ok (.iload_n 1, 1) := by decide +kernel
theorem dX4_isOlder_86 : decode cX4_isOlder 86 = .ok (.iload_n 2, 1) := by decide +kernel
theorem dX4_isOlder_87 : decode cX4_isOlder 87 = .ok (.if_icmp .ge 7, 3) := by decide +kernel
theorem dX4_isOlder_90 : decode cX4_isOlder 90 = .ok (.iconst 1, 1) := by decide +kernel
theorem dX4_isOlder_91 : decode cX4_isOlder 91 = .ok (.goto 4, 3) := by decide +kernel
theorem dX4_isOlder_94 : decode cX4_isOlder 94 = .ok (.iconst 0, 1) := by decide +kernel
theorem dX4_isOlder_95 : decode cX4_isOlder 95 = .ok (.ireturn, 1) := by decide +kernel
set_option maxRecDepth 20000 in
theorem ggX4_allHeirs_X4_heirsOf : GoodIn wsX4_allHeirs wsX4_heirsOf := goodIn_r _ [6, 7, 8, 9, 10, 5, 11, 12, 13, 14, 15, 16, 17, 18, 19, 20, 21, 22, 23, 24, 25, 26, 27, 28, 29, 30, 31, 32, 33, 34, 35, 36, 37, 38, 39, 40, 41, 42, 43, 44, 45, 46, 47, 48, 49, 50, 51] (by decide +kernel) (by decide +kernel)
set_option maxRecDepth 20000 in
theorem gX4_allHeirs_X4_heirsOf : GoodIn wsX4_allHeirs (wsV RX4 100 RX4 yX4_heirsOf wsX4_heirsOf) := goodIn_app (goodIn_of _ (by decide +kernel)) ggX4_allHeirs_X4_heirsOf
theorem dX4_allHeirs_0 : decode cX4_allHeirs 0 = .ok (.iconst 0, 1) := by decide +kernel
theorem dX4_allHeirs_1 : decode cX4_allHeirs 1 = .ok (.istore_n 1, 1) := by decide +kernel
theorem dX4_allHeirs_2 : decode cX4_allHeirs 2 = .ok (.iconst 0, 1) := by decide +kernel
theorem dX4_allHeirs_3 : decode cX4_allHeirs 3 = .ok (.istore_n 2, 1) := by decide +kernel
theorem dX4_allHeirs_4 : decode cX4_allHeirs 4 = .ok (.iload_n 2, 1) := by decide +kernel
theorem dX4_allHeirs_5 : decode cX4_allHeirs 5 = .ok (.aload_n 0, 1) := by decide +kernel
theorem dX4_allHeirs_6 : decode cX4_allHeirs 6 = .ok (.getfield 32, 3) := by decide +kernel
theorem dX4_allHeirs_9 : decode cX4_allHeirs 9 = .ok (.if_icmp .ge 22, 3) := by decide +kernel
theorem dX4_allHeirs_12 : decode cX4_allHeirs 12 = .ok (.iload_n 1, 1) := by decide +kernel
theorem dX4_allHeirs_13 : decode cX4_allHeirs 13 = .ok (.aload_n 0, 1) := by decide +kernel
theorem dX4_allHeirs_14 : decode cX4_allHeirs 14 = .ok (.iload_n 2, 1) := by decide +kernel
theorem dX4_allHeirs_15 : decode cX4_allHeirs 15 = .ok (.invokevirtual 100, 3) := by decide +kernel
theorem dX4_allHeirs_18 : decode cX4_allHeirs 18 = .ok (.bipush 7, 2) := by decide +kernel
theorem dX4_allHeirs_20 : decode cX4_allHeirs 20 = .ok (.iload_n 2, 1) := by decide +kernel
theorem dX4_allHeirs_21 : decode cX4_allHeirs 21 = .ok (.imul, 1) := by decide +kernel
theorem dX4_allHeirs_22 : decode cX4_allHeirs 22 = .ok (.ishl, 1) := by decide +kernel
theorem dX4_allHeirs_23 : decode cX4_allHeirs 23 = .ok (.ior, 1) := by decide +kernel
theorem dX4_allHeirs_24 : decode cX4_allHeirs 24 = .ok (.istore_n 1, 1) := by decide +kernel
theorem dX4_allHeirs_25 : decode cX4_allHeirs 25 = .ok (.iinc 2 1, 3) := by decide +kernel
theorem dX4_allHeirs_28 : decode cX4_allHeirs 28 = .ok (.goto (-24), 3) := by decide +kernel
theorem dX4_allHeirs_31 : decode cX4_allHeirs 31 = .ok (.iload_n 1, 1) := by decide +kernel
theorem dX4_allHeirs_32 : decode cX4_allHeirs 32 = .ok (.ireturn, 1) := by decide +kernel
set_option maxRecDepth 20000 in
theorem ggX4_countDiffering_X5_bit : GoodIn wsX4_countDiffering wsX5_bit := goodIn_r _ [4] (by decide +kernel) (by decide +kernel)
set_option maxRecDepth 20000 in
theorem gX4_countDiffering_X5_bit_n67 : GoodIn wsX4_countDiffering (wsX5_bit) := ggX4_countDiffering_X5_bit
theorem dX4_countDiffering_0 : decode cX4_countDiffering 0 = .ok (.iconst 0, 1) := by decide +kernel
theorem dX4_countDiffering_1 : decode cX4_countDiffering 1 = .ok (.istore_n 3, 1) := by decide +kernel
theorem dX4_countDiffering_2 : decode cX4_countDiffering 2 = .ok (.iconst 0, 1) := by decide +kernel
theorem dX4_countDiffering_3 : decode cX4_countDiffering 3 = .ok (.istore 4, 2) := by decide +kernel
theorem dX4_countDiffering_5 : decode cX4_countDiffering 5 = .ok (.iload 4, 2) := by decide +kernel
theorem dX4_countDiffering_7 : decode cX4_countDiffering 7 = .ok (.aload_n 0, 1) := by decide +kernel
theorem dX4_countDiffering_8 : decode cX4_countDiffering 8 = .ok (.getfield 32, 3) := by decide +kernel
theorem dX4_countDiffering_11 : decode cX4_countDiffering 11 = .ok (.if_icmp .ge 36, 3) := by decide +kernel
theorem dX4_countDiffering_14 : decode cX4_countDiffering 14 = .ok (.iload_n 1, 1) := by decide +kernel
theorem dX4_countDiffering_15 : decode cX4_countDiffering 15 = .ok (.iload_n 2, 1) := by decide +kernel
theorem dX4_countDiffering_16 : decode cX4_countDiffering 16 = .ok (.ixor, 1) := by decide +kernel
theorem dX4_countDiffering_17 : decode cX4_countDiffering 17 = .ok (.bipush 7, 2) := by decide +kernel
theorem dX4_countDiffering_19 : decode cX4_countDiffering 19 = .ok (.iload 4, 2) := by decide +kernel
theorem dX4_countDiffering_21 : decode cX4_countDiffering 21 = .ok (.imul, 1) := by decide +kernel
theorem dX4_countDiffering_22 : decode cX4_countDiffering 22 = .ok (.ishr, 1) := by decide +kernel
theorem dX4_countDiffering_23 : decode cX4_countDiffering 23 = .ok (.istore 5, 2) := by decide +kernel
theorem dX4_countDiffering_25 : decode cX4_countDiffering 25 = .ok (.iload 5, 2) := by decide +kernel
theorem dX4_countDiffering_27 : decode cX4_countDiffering 27 = .ok (.bipush 7, 2) := by decide +kernel
theorem dX4_countDiffering_29 : decode cX4_countDiffering 29 = .ok (.invokestatic 67, 3) := by decide +kernel
theorem dX4_countDiffering_32 : decode cX4_countDiffering 32 = .ok (.iconst 1, 1) := by decide +kernel
theorem dX4_countDiffering_33 : decode cX4_countDiffering 33 = .ok (.isub, 1) := by decide +kernel
theorem dX4_countDiffering_34 : decode cX4_countDiffering 34 = .ok (.iand, 1) := by decide +kernel
theorem dX4_countDiffering_35 : decode cX4_countDiffering 35 = .ok (.ifCond .eq 6, 3) := by decide +kernel
theorem dX4_countDiffering_38 : decode cX4_countDiffering 38 = .ok (.iinc 3 1, 3) := by decide +kernel
theorem dX4_countDiffering_41 : decode cX4_countDiffering 41 = .ok (.iinc 4 1, 3) := by decide +kernel
theorem dX4_countDiffering_44 : decode cX4_countDiffering 44 = .ok (.goto (-39), 3) := by decide +kernel
theorem dX4_countDiffering_47 : decode cX4_countDiffering 47 = .ok (.iload_n 3, 1) := by decide +kernel
theorem dX4_countDiffering_48 : decode cX4_countDiffering 48 = .ok (.ireturn, 1) := by decide +kernel
set_option maxRecDepth 20000 in
theorem ggX4_partOf_X1_get : GoodIn wsX4_partOf wsX1_get := goodIn_r _ [6, 7, 26] (by decide +kernel) (by decide +kernel)
set_option maxRecDepth 20000 in
theorem gX4_partOf_X1_get : GoodIn wsX4_partOf (wsV RX4 63 RX1 yX1_get wsX1_get) := goodIn_app (goodIn_of _ (by decide +kernel)) ggX4_partOf_X1_get
set_option maxRecDepth 20000 in
theorem ggX4_partOf_J6_bitCount_0f7a4 : GoodIn wsX4_partOf wsJ6_bitCount_0f7a4 := goodIn_r _ [11, 12, 13, 14] (by decide +kernel) (by decide +kernel)
set_option maxRecDepth 20000 in
theorem gX4_partOf_J6_bitCount_0f7a4 : GoodIn wsX4_partOf (va_wsS RX4 116 yJ6_bitCount_0f7a4 wsJ6_bitCount_0f7a4) := goodIn_app (goodIn_of _ (by decide +kernel)) ggX4_partOf_J6_bitCount_0f7a4
theorem dX4_partOf_0 : decode cX4_partOf 0 = .ok (.iload_n 2, 1) := by decide +kernel
theorem dX4_partOf_1 : decode cX4_partOf 1 = .ok (.ifCond .ne 7, 3) := by decide +kernel
theorem dX4_partOf_4 : decode cX4_partOf 4 = .ok (.iconst 0, 1) := by decide +kernel
theorem dX4_partOf_5 : decode cX4_partOf 5 = .ok (.goto 16, 3) := by decide +kernel
theorem dX4_partOf_8 : decode cX4_partOf 8 = .ok (.aload_n 0, 1) := by decide +kernel
theorem dX4_partOf_9 : decode cX4_partOf 9 = .ok (.getfield 14, 3) := by decide +kernel
theorem dX4_partOf_12 : decode cX4_partOf 12 = .ok (.iload_n 1, 1) := by decide +kernel
theorem dX4_partOf_13 : decode cX4_partOf 13 = .ok (.invokevirtual 63, 3) := by decide +kernel
theorem dX4_partOf_16 : decode cX4_partOf 16 = .ok (.iload_n 2, 1) := by decide +kernel
theorem dX4_partOf_17 : decode cX4_partOf 17 = .ok (.invokestatic 116, 3) := by decide +kernel
theorem dX4_partOf_20 : decode cX4_partOf 20 = .ok (.idiv, 1) := by decide +kernel
theorem dX4_partOf_21 : decode cX4_partOf 21 = .ok (.ireturn, 1) := by decide +kernel
set_option maxRecDepth 20000 in
theorem ggX4_wealthInAll_X1_get : GoodIn wsX4_wealthInAll wsX1_get := goodIn_r _ [8, 9, 64] (by decide +kernel) (by decide +kernel)
set_option maxRecDepth 20000 in
theorem gX4_wealthInAll_X1_get : GoodIn wsX4_wealthInAll (wsV RX4 63 RX1 yX1_get wsX1_get) := goodIn_app (goodIn_of _ (by decide +kernel)) ggX4_wealthInAll_X1_get
set_option maxRecDepth 20000 in
theorem ggX4_wealthInAll_X5_isIn : GoodIn wsX4_wealthInAll wsX5_isIn := goodIn_r _ [12] (by decide +kernel) (by decide +kernel)
set_option maxRecDepth 20000 in
theorem gX4_wealthInAll_X5_isIn_n59 : GoodIn wsX4_wealthInAll (wsX5_isIn) := ggX4_wealthInAll_X5_isIn
set_option maxRecDepth 20000 in
theorem ggX4_wealthInAll_X4_heirsOf : GoodIn wsX4_wealthInAll wsX4_heirsOf := goodIn_r _ [17, 18, 19, 20, 21, 16, 22, 23, 10, 11, 12, 24, 25, 26, 27, 28, 1, 29, 4, 5, 6, 7, 8, 9, 30, 31, 32, 33, 34, 35, 36, 37, 38, 39, 40, 53, 54, 55, 56, 57, 58, 59, 60, 61, 62, 63, 64] (by decide +kernel) (by decide +kernel)
set_option maxRecDepth 20000 in
theorem gX4_wealthInAll_X4_heirsOf : GoodIn wsX4_wealthInAll (wsV RX4 100 RX4 yX4_heirsOf wsX4_heirsOf) := goodIn_app (goodIn_of _ (by decide +kernel)) ggX4_wealthInAll_X4_heirsOf
set_option maxRecDepth 20000 in
theorem ggX4_wealthInAll_X4_partOf : GoodIn wsX4_wealthInAll wsX4_partOf := goodIn_r _ [44, 45, 4, 5, 6, 7, 8, 9, 46, 47, 48, 49, 50, 51, 52, 53, 54, 55, 56, 57, 58, 59, 60, 61, 62, 63, 64] (by decide +kernel) (by decide +kernel)
set_option maxRecDepth 20000 in
theorem gX4_wealthInAll_X4_partOf : GoodIn wsX4_wealthInAll (wsV RX4 84 RX4 yX4_partOf wsX4_partOf) := goodIn_app (goodIn_of _ (by decide +kernel)) ggX4_wealthInAll_X4_partOf
theorem dX4_wealthInAll_0 : decode cX4_wealthInAll 0 = .ok (.aload_n 0, 1) := by decide +kernel
theorem dX4_wealthInAll_1 : decode cX4_wealthInAll 1 = .ok (.getfield 23, 3) := by decide +kernel
theorem dX4_wealthInAll_4 : decode cX4_wealthInAll 4 = .ok (.iload_n 1, 1) := by decide +kernel
theorem dX4_wealthInAll_5 : decode cX4_wealthInAll 5 = .ok (.invokevirtual 63, 3) := by decide +kernel
theorem dX4_wealthInAll_8 : decode cX4_wealthInAll 8 = .ok (.istore_n 2, 1) := by decide +kernel
theorem dX4_wealthInAll_9 : decode cX4_wealthInAll 9 = .ok (.aload_n 0, 1) := by decide +kernel
theorem dX4_wealthInAll_10 : decode cX4_wealthInAll 10 = .ok (.getfield 45, 3) := by decide +kernel
theorem dX4_wealthInAll_13 : decode cX4_wealthInAll 13 = .ok (.iload_n 2, 1) := by decide +kernel
theorem dX4_wealthInAll_14 : decode cX4_wealthInAll 14 = .ok (.invokestatic 59, 3) := by decide +kernel
theorem dX4_wealthInAll_17 : decode cX4_wealthInAll 17 = .ok (.ifCond .eq 7, 3) := by decide +kernel
theorem dX4_wealthInAll_20 : decode cX4_wealthInAll 20 = .ok (.iconst 0, 1) := by decide +kernel
theorem dX4_wealthInAll_21 : decode cX4_wealthInAll 21 = .ok (.goto 8, 3) := by decide +kernel
theorem dX4_wealthInAll_24 : decode cX4_wealthInAll 24 = .ok (.aload_n 0, 1) := by decide +kernel
theorem dX4_wealthInAll_25 : decode cX4_wealthInAll 25 = .ok (.iload_n 2, 1) := by decide +kernel
theorem dX4_wealthInAll_26 : decode cX4_wealthInAll 26 = .ok (.invokevirtual 100, 3) := by decide +kernel
theorem dX4_wealthInAll_29 : decode cX4_wealthInAll 29 = .ok (.istore_n 3, 1) := by decide +kernel
theorem dX4_wealthInAll_30 : decode cX4_wealthInAll 30 = .ok (.aload_n 0, 1) := by decide +kernel
theorem dX4_wealthInAll_31 : decode cX4_wealthInAll 31 = .ok (.getfield 29, 3) := by decide +kernel
theorem dX4_wealthInAll_34 : decode cX4_wealthInAll 34 = .ok (.iload_n 1, 1) := by decide +kernel
theorem dX4_wealthInAll_35 : decode cX4_wealthInAll 35 = .ok (.invokevirtual 63, 3) := by decide +kernel
theorem dX4_wealthInAll_38 : decode cX4_wealthInAll 38 = .ok (.iload_n 3, 1) := by decide +kernel
theorem dX4_wealthInAll_39 : decode cX4_wealthInAll 39 = .ok (.iload_n 1, 1) := by decide +kernel
theorem dX4_wealthInAll_40 : decode cX4_wealthInAll 40 = .ok (.invokestatic 59, 3) := by decide +kernel
theorem dX4_wealthInAll_43 : decode cX4_wealthInAll 43 = .ok (.ifCond .eq 12, 3) := by decide +kernel
theorem dX4_wealthInAll_46 : decode cX4_wealthInAll 46 = .ok (.aload_n 0, 1) := by decide +kernel
theorem dX4_wealthInAll_47 : decode cX4_wealthInAll 47 = .ok (.iload_n 2, 1) := by decide +kernel
theorem dX4_wealthInAll_48 : decode cX4_wealthInAll 48 = .ok (.iload_n 3, 1) := by decide +kernel
theorem dX4_wealthInAll_49 : decode cX4_wealthInAll 49 = .ok (.invokevirtual 84, 3) := by decide +kernel
theorem dX4_wealthInAll_52 : decode cX4_wealthInAll 52 = .ok (.goto 4, 3) := by decide +kernel
theorem dX4_wealthInAll_55 : decode cX4_wealthInAll 55 = .ok (.iconst 0, 1) := by decide +kernel
theorem dX4_wealthInAll_56 : decode cX4_wealthInAll 56 = .ok (.iadd, 1) := by decide +kernel
theorem dX4_wealthInAll_57 : decode cX4_wealthInAll 57 = .ok (.ireturn, 1) := by decide +kernel
set_option maxRecDepth 20000 in
theorem ggX4_fewestInTheWay_X1_get : GoodIn wsX4_fewestInTheWay wsX1_get := goodIn_r _ [7, 8, 65] (by decide +kernel) (by decide +kernel)
set_option maxRecDepth 20000 in
theorem gX4_fewestInTheWay_X1_get : GoodIn wsX4_fewestInTheWay (wsV RX4 63 RX1 yX1_get wsX1_get) := goodIn_app (goodIn_of _ (by decide +kernel)) ggX4_fewestInTheWay_X1_get
set_option maxRecDepth 20000 in
theorem ggX4_fewestInTheWay_X4_broodOf : GoodIn wsX4_fewestInTheWay wsX4_broodOf := goodIn_r _ [13, 14, 1, 15, 16, 17, 12, 18, 2, 19, 20, 21, 22, 23, 24, 25, 3, 4, 5, 6, 7, 8, 26, 27, 54, 55, 56, 57, 58, 59, 60, 61, 62, 63, 64, 65] (by decide +kernel) (by decide +kernel)
set_option maxRecDepth 20000 in
theorem gX4_fewestInTheWay_X4_broodOf : GoodIn wsX4_fewestInTheWay (wsV RX4 121 RX4 yX4_broodOf wsX4_broodOf) := goodIn_app (goodIn_of _ (by decide +kernel)) ggX4_fewestInTheWay_X4_broodOf
set_option maxRecDepth 20000 in
theorem ggX4_fewestInTheWay_X5_bit : GoodIn wsX4_fewestInTheWay wsX5_bit := goodIn_r _ [27] (by decide +kernel) (by decide +kernel)
set_option maxRecDepth 20000 in
theorem gX4_fewestInTheWay_X5_bit_n67 : GoodIn wsX4_fewestInTheWay (wsX5_bit) := ggX4_fewestInTheWay_X5_bit
set_option maxRecDepth 20000 in
theorem ggX4_fewestInTheWay_J6_bitCount_0f7a4 : GoodIn wsX4_fewestInTheWay wsJ6_bitCount_0f7a4 := goodIn_r _ [31, 32, 33, 34] (by decide +kernel) (by decide +kernel)
set_option maxRecDepth 20000 in
theorem gX4_fewestInTheWay_J6_bitCount_0f7a4 : GoodIn wsX4_fewestInTheWay (va_wsS RX4 116 yJ6_bitCount_0f7a4 wsJ6_bitCount_0f7a4) := goodIn_app (goodIn_of _ (by decide +kernel)) ggX4_fewestInTheWay_J6_bitCount_0f7a4
set_option maxRecDepth 20000 in
theorem ggX4_fewestInTheWay_X4_sideOf : GoodIn wsX4_fewestInTheWay wsX4_sideOf := goodIn_r _ [38, 39, 23, 24, 25, 54, 55, 56, 57, 58, 59, 60, 61, 62, 63, 64] (by decide +kernel) (by decide +kernel)
set_option maxRecDepth 20000 in
theorem gX4_fewestInTheWay_X4_sideOf : GoodIn wsX4_fewestInTheWay (wsV RX4 106 RX4 yX4_sideOf wsX4_sideOf) := goodIn_app (goodIn_of _ (by decide +kernel)) ggX4_fewestInTheWay_X4_sideOf
set_option maxRecDepth 20000 in
theorem ggX4_fewestInTheWay_X4_heirsAmong : GoodIn wsX4_fewestInTheWay wsX4_heirsAmong := goodIn_r _ [43, 14, 1, 44, 3, 4, 5, 6, 7, 8, 23, 24, 25, 26, 27, 45, 46, 47, 12, 48, 49, 50, 51, 52, 53, 54, 55, 56, 57, 58, 59, 60, 61, 62, 63, 64, 65] (by decide +kernel) (by decide +kernel)
set_option maxRecDepth 20000 in
theorem gX4_fewestInTheWay_X4_heirsAmong : GoodIn wsX4_fewestInTheWay (wsV RX4 80 RX4 yX4_heirsAmong wsX4_heirsAmong) := goodIn_app (goodIn_of _ (by decide +kernel)) ggX4_fewestInTheWay_X4_heirsAmong
theorem dX4_fewestInTheWay_0 : decode cX4_fewestInTheWay 0 = .ok (.aload_n 0, 1) := by decide +kernel
theorem dX4_fewestInTheWay_1 : decode cX4_fewestInTheWay 1 = .ok (.getfield 23, 3) := by decide +kernel
theorem dX4_fewestInTheWay_4 : decode cX4_fewestInTheWay 4 = .ok (.iload_n 1, 1) := by decide +kernel
theorem dX4_fewestInTheWay_5 : decode cX4_fewestInTheWay 5 = .ok (.invokevirtual 63, 3) := by decide +kernel
theorem dX4_fewestInTheWay_8 : decode cX4_fewestInTheWay 8 = .ok (.iload_n 2, 1) := by decide +kernel
theorem dX4_fewestInTheWay_9 : decode cX4_fewestInTheWay 9 = .ok (.if_icmp .eq 6, 3) := by decide +kernel
theorem dX4_fewestInTheWay_12 : decode cX4_fewestInTheWay 12 = .ok (.bipush (-9), 2) := by decide +kernel
theorem dX4_fewestInTheWay_14 : decode cX4_fewestInTheWay 14 = .ok (.ireturn, 1) := by decide +kernel
theorem dX4_fewestInTheWay_15 : decode cX4_fewestInTheWay 15 = .ok (.aload_n 0, 1) := by decide +kernel
theorem dX4_fewestInTheWay_16 : decode cX4_fewestInTheWay 16 = .ok (.iload_n 1, 1) := by decide +kernel
theorem dX4_fewestInTheWay_17 : decode cX4_fewestInTheWay 17 = .ok (.invokevirtual 121, 3) := by decide +kernel
theorem dX4_fewestInTheWay_20 : decode cX4_fewestInTheWay 20 = .ok (.iload_n 1, 1) := by decide +kernel
theorem dX4_fewestInTheWay_21 : decode cX4_fewestInTheWay 21 = .ok (.invokestatic 67, 3) := by decide +kernel
theorem dX4_fewestInTheWay_24 : decode cX4_fewestInTheWay 24 = .ok (.iconst (-1), 1) := by decide +kernel
theorem dX4_fewestInTheWay_25 : decode cX4_fewestInTheWay 25 = .ok (.ixor, 1) := by decide +kernel
theorem dX4_fewestInTheWay_26 : decode cX4_fewestInTheWay 26 = .ok (.iand, 1) := by decide +kernel
theorem dX4_fewestInTheWay_27 : decode cX4_fewestInTheWay 27 = .ok (.istore_n 3, 1) := by decide +kernel
theorem dX4_fewestInTheWay_28 : decode cX4_fewestInTheWay 28 = .ok (.iload_n 3, 1) := by decide +kernel
theorem dX4_fewestInTheWay_29 : decode cX4_fewestInTheWay 29 = .ok (.istore 4, 2) := by decide +kernel
theorem dX4_fewestInTheWay_31 : decode cX4_fewestInTheWay 31 = .ok (.iconst 0, 1) := by decide +kernel
theorem dX4_fewestInTheWay_32 : decode cX4_fewestInTheWay 32 = .ok (.istore 5, 2) := by decide +kernel
theorem dX4_fewestInTheWay_34 : decode cX4_fewestInTheWay 34 = .ok (.iload 5, 2) := by decide +kernel
theorem dX4_fewestInTheWay_36 : decode cX4_fewestInTheWay 36 = .ok (.bipush 7, 2) := by decide +kernel
theorem dX4_fewestInTheWay_38 : decode cX4_fewestInTheWay 38 = .ok (.invokestatic 67, 3) := by decide +kernel
theorem dX4_fewestInTheWay_41 : decode cX4_fewestInTheWay 41 = .ok (.if_icmp .ge 64, 3) := by decide +kernel
theorem dX4_fewestInTheWay_44 : decode cX4_fewestInTheWay 44 = .ok (.iload 5, 2) := by decide +kernel
theorem dX4_fewestInTheWay_46 : decode cX4_fewestInTheWay 46 = .ok (.iload_n 3, 1) := by decide +kernel
theorem dX4_fewestInTheWay_47 : decode cX4_fewestInTheWay 47 = .ok (.iconst (-1), 1) := by decide +kernel
theorem dX4_fewestInTheWay_48 : decode cX4_fewestInTheWay 48 = .ok (.ixor, 1) := by decide +kernel
theorem dX4_fewestInTheWay_49 : decode cX4_fewestInTheWay 49 = .ok (.iand, 1) := by decide +kernel
theorem dX4_fewestInTheWay_50 : decode cX4_fewestInTheWay 50 = .ok (.ifCond .ne 49, 3) := by decide +kernel
theorem dX4_fewestInTheWay_53 : decode cX4_fewestInTheWay 53 = .ok (.iload 5, 2) := by decide +kernel
theorem dX4_fewestInTheWay_55 : decode cX4_fewestInTheWay 55 = .ok (.invokestatic 116, 3) := by decide +kernel
theorem dX4_fewestInTheWay_58 : decode cX4_fewestInTheWay 58 = .ok (.iload 4, 2) := by decide +kernel
theorem dX4_fewestInTheWay_60 : decode cX4_fewestInTheWay 60 = .ok (.invokestatic 116, 3) := by decide +kernel
theorem dX4_fewestInTheWay_63 : decode cX4_fewestInTheWay 63 = .ok (.if_icmp .lt 6, 3) := by decide +kernel
theorem dX4_fewestInTheWay_66 : decode cX4_fewestInTheWay 66 = .ok (.goto 33, 3) := by decide +kernel
theorem dX4_fewestInTheWay_69 : decode cX4_fewestInTheWay 69 = .ok (.aload_n 0, 1) := by decide +kernel
theorem dX4_fewestInTheWay_70 : decode cX4_fewestInTheWay 70 = .ok (.iload_n 2, 1) := by decide +kernel
theorem dX4_fewestInTheWay_71 : decode cX4_fewestInTheWay 71 = .ok (.aload_n 0, 1) := by decide +kernel
theorem dX4_fewestInTheWay_72 : decode cX4_fewestInTheWay 72 = .ok (.iload_n 2, 1) := by decide +kernel
theorem dX4_fewestInTheWay_73 : decode cX4_fewestInTheWay 73 = .ok (.invokevirtual 106, 3) := by decide +kernel
theorem dX4_fewestInTheWay_76 : decode cX4_fewestInTheWay 76 = .ok (.aload_n 0, 1) := by decide +kernel
theorem dX4_fewestInTheWay_77 : decode cX4_fewestInTheWay 77 = .ok (.getfield 39, 3) := by decide +kernel
theorem dX4_fewestInTheWay_80 : decode cX4_fewestInTheWay 80 = .ok (.iload 5, 2) := by decide +kernel
theorem dX4_fewestInTheWay_82 : decode cX4_fewestInTheWay 82 = .ok (.iconst (-1), 1) := by decide +kernel
theorem dX4_fewestInTheWay_83 : decode cX4_fewestInTheWay 83 = .ok (.ixor, 1) := by decide +kernel
theorem dX4_fewestInTheWay_84 : decode cX4_fewestInTheWay 84 = .ok (.iand, 1) := by decide +kernel
theorem dX4_fewestInTheWay_85 : decode cX4_fewestInTheWay 85 = .ok (.invokevirtual 80, 3) := by decide +kernel
theorem dX4_fewestInTheWay_88 : decode cX4_fewestInTheWay 88 = .ok (.iload_n 1, 1) := by decide +kernel
theorem dX4_fewestInTheWay_89 : decode cX4_fewestInTheWay 89 = .ok (.invokestatic 67, 3) := by decide +kernel
theorem dX4_fewestInTheWay_92 : decode cX4_fewestInTheWay 92 = .ok (.if_icmp .ne 7, 3) := by decide +kernel
theorem dX4_fewestInTheWay_95 : decode cX4_fewestInTheWay 95 = .ok (.iload 5, 2) := by decide +kernel
theorem dX4_fewestInTheWay_97 : decode cX4_fewestInTheWay 97 = .ok (.istore 4, 2) := by decide +kernel
theorem dX4_fewestInTheWay_99 : decode cX4_fewestInTheWay 99 = .ok (.iinc 5 1, 3) := by decide +kernel
theorem dX4_fewestInTheWay_102 : decode cX4_fewestInTheWay 102 = .ok (.goto (-68), 3) := by decide +kernel
theorem dX4_fewestInTheWay_105 : decode cX4_fewestInTheWay 105 = .ok (.iload 4, 2) := by decide +kernel
theorem dX4_fewestInTheWay_107 : decode cX4_fewestInTheWay 107 = .ok (.ireturn, 1) := by decide +kernel
set_option maxRecDepth 20000 in
theorem ggX4_isContent_X4_restOf : GoodIn wsX4_isContent wsX4_restOf := goodIn_r _ [5, 6, 7, 8, 9, 10, 11, 12, 13, 14, 15, 16, 17, 18, 19, 4, 20, 21, 22, 23, 24, 25, 26, 27, 28, 29, 30, 31, 32, 33, 34, 35, 36, 37, 38, 39, 40, 41, 42, 43, 44, 45, 46, 47, 48, 49, 50, 51, 52, 53, 54, 55, 56, 57, 58, 59, 60, 61, 62] (by decide +kernel) (by decide +kernel)
set_option maxRecDepth 20000 in
theorem gX4_isContent_X4_restOf : GoodIn wsX4_isContent (wsV RX4 124 RX4 yX4_restOf wsX4_restOf) := goodIn_app (goodIn_of _ (by decide +kernel)) ggX4_isContent_X4_restOf
set_option maxRecDepth 20000 in
theorem ggX4_isContent_X5_bit : GoodIn wsX4_isContent wsX5_bit := goodIn_r _ [29] (by decide +kernel) (by decide +kernel)
set_option maxRecDepth 20000 in
theorem gX4_isContent_X5_bit_n67 : GoodIn wsX4_isContent (wsX5_bit) := ggX4_isContent_X5_bit
theorem dX4_isContent_0 : decode cX4_isContent 0 = .ok (.aload_n 0, 1) := by decide +kernel
theorem dX4_isContent_1 : decode cX4_isContent 1 = .ok (.iload_n 1, 1) := by decide +kernel
theorem dX4_isContent_2 : decode cX4_isContent 2 = .ok (.iload_n 2, 1) := by decide +kernel
theorem dX4_isContent_3 : decode cX4_isContent 3 = .ok (.invokevirtual 124, 3) := by decide +kernel
theorem dX4_isContent_6 : decode cX4_isContent 6 = .ok (.aload_n 0, 1) := by decide +kernel
theorem dX4_isContent_7 : decode cX4_isContent 7 = .ok (.iload_n 1, 1) := by decide +kernel
theorem dX4_isContent_8 : decode cX4_isContent 8 = .ok (.iload_n 2, 1) := by decide +kernel
theorem dX4_isContent_9 : decode cX4_isContent 9 = .ok (.iload_n 1, 1) := by decide +kernel
theorem dX4_isContent_10 : decode cX4_isContent 10 = .ok (.invokestatic 67, 3) := by decide +kernel
theorem dX4_isContent_13 : decode cX4_isContent 13 = .ok (.ixor, 1) := by decide +kernel
theorem dX4_isContent_14 : decode cX4_isContent 14 = .ok (.invokevirtual 124, 3) := by decide +kernel
theorem dX4_isContent_17 : decode cX4_isContent 17 = .ok (.if_icmp .lt 7, 3) := by decide +kernel
theorem dX4_isContent_20 : decode cX4_isContent 20 = .ok (.iconst 1, 1) := by decide +kernel
theorem dX4_isContent_21 : decode cX4_isContent 21 = .ok (.goto 4, 3) := by decide +kernel
theorem dX4_isContent_24 : decode cX4_isContent 24 = .ok (.iconst 0, 1) := by decide +kernel
theorem dX4_isContent_25 : decode cX4_isContent 25 = .ok (.ireturn, 1) := by decide +kernel
set_option maxRecDepth 20000 in
theorem ggX4_restOf_X5_isIn : GoodIn wsX4_restOf wsX5_isIn := goodIn_r _ [5] (by decide +kernel) (by decide +kernel)
set_option maxRecDepth 20000 in
theorem gX4_restOf_X5_isIn_n59 : GoodIn wsX4_restOf (wsX5_isIn) := ggX4_restOf_X5_isIn
set_option maxRecDepth 20000 in
theorem ggX4_restOf_X1_get : GoodIn wsX4_restOf wsX1_get := goodIn_r _ [10, 11, 58] (by decide +kernel) (by decide +kernel)
set_option maxRecDepth 20000 in
theorem gX4_restOf_X1_get : GoodIn wsX4_restOf (wsV RX4 63 RX1 yX1_get wsX1_get) := goodIn_app (goodIn_of _ (by decide +kernel)) ggX4_restOf_X1_get
set_option maxRecDepth 20000 in
theorem ggX4_restOf_X4_sideOf : GoodIn wsX4_restOf wsX4_sideOf := goodIn_r _ [16, 17, 3, 4, 5, 47, 48, 49, 50, 51, 52, 53, 54, 55, 56, 57] (by decide +kernel) (by decide +kernel)
set_option maxRecDepth 20000 in
theorem gX4_restOf_X4_sideOf : GoodIn wsX4_restOf (wsV RX4 106 RX4 yX4_sideOf wsX4_sideOf) := goodIn_app (goodIn_of _ (by decide +kernel)) ggX4_restOf_X4_sideOf
set_option maxRecDepth 20000 in
theorem ggX4_restOf_X4_heirsAmong : GoodIn wsX4_restOf wsX4_heirsAmong := goodIn_r _ [21, 22, 1, 23, 6, 7, 8, 9, 10, 11, 3, 4, 5, 24, 25, 26, 27, 28, 15, 29, 30, 31, 32, 33, 34, 47, 48, 49, 50, 51, 52, 53, 54, 55, 56, 57, 58] (by decide +kernel) (by decide +kernel)
set_option maxRecDepth 20000 in
theorem gX4_restOf_X4_heirsAmong : GoodIn wsX4_restOf (wsV RX4 80 RX4 yX4_heirsAmong wsX4_heirsAmong) := goodIn_app (goodIn_of _ (by decide +kernel)) ggX4_restOf_X4_heirsAmong
set_option maxRecDepth 20000 in
theorem ggX4_restOf_X4_partOf : GoodIn wsX4_restOf wsX4_partOf := goodIn_r _ [38, 39, 6, 7, 8, 9, 10, 11, 40, 41, 42, 43, 44, 45, 46, 47, 48, 49, 50, 51, 52, 53, 54, 55, 56, 57, 58] (by decide +kernel) (by decide +kernel)
set_option maxRecDepth 20000 in
theorem gX4_restOf_X4_partOf : GoodIn wsX4_restOf (wsV RX4 84 RX4 yX4_partOf wsX4_partOf) := goodIn_app (goodIn_of _ (by decide +kernel)) ggX4_restOf_X4_partOf
theorem dX4_restOf_0 : decode cX4_restOf 0 = .ok (.iload_n 2, 1) := by decide +kernel
theorem dX4_restOf_1 : decode cX4_restOf 1 = .ok (.iload_n 1, 1) := by decide +kernel
theorem dX4_restOf_2 : decode cX4_restOf 2 = .ok (.invokestatic 59, 3) := by decide +kernel
theorem dX4_restOf_5 : decode cX4_restOf 5 = .ok (.ifCond .eq 5, 3) := by decide +kernel
theorem dX4_restOf_8 : decode cX4_restOf 8 = .ok (.iconst 3, 1) := by decide +kernel
theorem dX4_restOf_9 : decode cX4_restOf 9 = .ok (.ireturn, 1) := by decide +kernel
theorem dX4_restOf_10 : decode cX4_restOf 10 = .ok (.aload_n 0, 1) := by decide +kernel
theorem dX4_restOf_11 : decode cX4_restOf 11 = .ok (.getfield 23, 3) := by decide +kernel
theorem dX4_restOf_14 : decode cX4_restOf 14 = .ok (.iload_n 1, 1) := by decide +kernel
theorem dX4_restOf_15 : decode cX4_restOf 15 = .ok (.invokevirtual 63, 3) := by decide +kernel
theorem dX4_restOf_18 : decode cX4_restOf 18 = .ok (.istore_n 3, 1) := by decide +kernel
theorem dX4_restOf_19 : decode cX4_restOf 19 = .ok (.aload_n 0, 1) := by decide +kernel
theorem dX4_restOf_20 : decode cX4_restOf 20 = .ok (.iload_n 3, 1) := by decide +kernel
theorem dX4_restOf_21 : decode cX4_restOf 21 = .ok (.aload_n 0, 1) := by decide +kernel
theorem dX4_restOf_22 : decode cX4_restOf 22 = .ok (.iload_n 3, 1) := by decide +kernel
theorem dX4_restOf_23 : decode cX4_restOf 23 = .ok (.invokevirtual 106, 3) := by decide +kernel
theorem dX4_restOf_26 : decode cX4_restOf 26 = .ok (.aload_n 0, 1) := by decide +kernel
theorem dX4_restOf_27 : decode cX4_restOf 27 = .ok (.getfield 39, 3) := by decide +kernel
theorem dX4_restOf_30 : decode cX4_restOf 30 = .ok (.iload_n 2, 1) := by decide +kernel
theorem dX4_restOf_31 : decode cX4_restOf 31 = .ok (.iconst (-1), 1) := by decide +kernel
theorem dX4_restOf_32 : decode cX4_restOf 32 = .ok (.ixor, 1) := by decide +kernel
theorem dX4_restOf_33 : decode cX4_restOf 33 = .ok (.iand, 1) := by decide +kernel
theorem dX4_restOf_34 : decode cX4_restOf 34 = .ok (.invokevirtual 80, 3) := by decide +kernel
theorem dX4_restOf_37 : decode cX4_restOf 37 = .ok (.istore 4, 2) := by decide +kernel
theorem dX4_restOf_39 : decode cX4_restOf 39 = .ok (.iload 4, 2) := by decide +kernel
theorem dX4_restOf_41 : decode cX4_restOf 41 = .ok (.iload_n 1, 1) := by decide +kernel
theorem dX4_restOf_42 : decode cX4_restOf 42 = .ok (.invokestatic 59, 3) := by decide +kernel
theorem dX4_restOf_45 : decode cX4_restOf 45 = .ok (.ifCond .eq 13, 3) := by decide +kernel
theorem dX4_restOf_48 : decode cX4_restOf 48 = .ok (.aload_n 0, 1) := by decide +kernel
theorem dX4_restOf_49 : decode cX4_restOf 49 = .ok (.iload_n 3, 1) := by decide +kernel
theorem dX4_restOf_50 : decode cX4_restOf 50 = .ok (.iload 4, 2) := by decide +kernel
theorem dX4_restOf_52 : decode cX4_restOf 52 = .ok (.invokevirtual 84, 3) := by decide +kernel
theorem dX4_restOf_55 : decode cX4_restOf 55 = .ok (.goto 4, 3) := by decide +kernel
theorem dX4_restOf_58 : decode cX4_restOf 58 = .ok (.iconst 0, 1) := by decide +kernel
theorem dX4_restOf_59 : decode cX4_restOf 59 = .ok (.ireturn, 1) := by decide +kernel
set_option maxRecDepth 20000 in
theorem ggX4_casesAsHeir_X1_get : GoodIn wsX4_casesAsHeir wsX1_get := goodIn_r _ [6, 7, 67] (by decide +kernel) (by decide +kernel)
set_option maxRecDepth 20000 in
theorem gX4_casesAsHeir_X1_get : GoodIn wsX4_casesAsHeir (wsV RX4 63 RX1 yX1_get wsX1_get) := goodIn_app (goodIn_of _ (by decide +kernel)) ggX4_casesAsHeir_X1_get
set_option maxRecDepth 20000 in
theorem ggX4_casesAsHeir_X4_broodOf : GoodIn wsX4_casesAsHeir wsX4_broodOf := goodIn_r _ [12, 13, 1, 14, 15, 16, 11, 17, 18, 19, 20, 21, 22, 23, 24, 25, 2, 3, 4, 5, 6, 7, 26, 27, 56, 57, 58, 59, 60, 61, 62, 63, 64, 65, 66, 67] (by decide +kernel) (by decide +kernel)
set_option maxRecDepth 20000 in
theorem gX4_casesAsHeir_X4_broodOf : GoodIn wsX4_casesAsHeir (wsV RX4 121 RX4 yX4_broodOf wsX4_broodOf) := goodIn_app (goodIn_of _ (by decide +kernel)) ggX4_casesAsHeir_X4_broodOf
set_option maxRecDepth 20000 in
theorem ggX4_casesAsHeir_J6_bitCount_0f7a4 : GoodIn wsX4_casesAsHeir wsJ6_bitCount_0f7a4 := goodIn_r _ [31, 32, 33, 34] (by decide +kernel) (by decide +kernel)
set_option maxRecDepth 20000 in
theorem gX4_casesAsHeir_J6_bitCount_0f7a4 : GoodIn wsX4_casesAsHeir (va_wsS RX4 116 yJ6_bitCount_0f7a4 wsJ6_bitCount_0f7a4) := goodIn_app (goodIn_of _ (by decide +kernel)) ggX4_casesAsHeir_J6_bitCount_0f7a4
set_option maxRecDepth 20000 in
theorem ggX4_casesAsHeir_X5_bit : GoodIn wsX4_casesAsHeir wsX5_bit := goodIn_r _ [27] (by decide +kernel) (by decide +kernel)
set_option maxRecDepth 20000 in
theorem gX4_casesAsHeir_X5_bit_n67 : GoodIn wsX4_casesAsHeir (wsX5_bit) := ggX4_casesAsHeir_X5_bit
set_option maxRecDepth 20000 in
theorem ggX4_casesAsHeir_X5_isIn : GoodIn wsX4_casesAsHeir wsX5_isIn := goodIn_r _ [25] (by decide +kernel) (by decide +kernel)
set_option maxRecDepth 20000 in
theorem gX4_casesAsHeir_X5_isIn_n59 : GoodIn wsX4_casesAsHeir (wsX5_isIn) := ggX4_casesAsHeir_X5_isIn
set_option maxRecDepth 20000 in
theorem ggX4_casesAsHeir_X4_sideOf : GoodIn wsX4_casesAsHeir wsX4_sideOf := goodIn_r _ [38, 39, 23, 24, 25, 56, 57, 58, 59, 60, 61, 62, 63, 64, 65, 66] (by decide +kernel) (by decide +kernel)
set_option maxRecDepth 20000 in
theorem gX4_casesAsHeir_X4_sideOf : GoodIn wsX4_casesAsHeir (wsV RX4 106 RX4 yX4_sideOf wsX4_sideOf) := goodIn_app (goodIn_of _ (by decide +kernel)) ggX4_casesAsHeir_X4_sideOf
set_option maxRecDepth 20000 in
theorem ggX4_casesAsHeir_X4_heirsAmong : GoodIn wsX4_casesAsHeir wsX4_heirsAmong := goodIn_r _ [43, 13, 1, 44, 2, 3, 4, 5, 6, 7, 23, 24, 25, 26, 27, 45, 46, 47, 11, 48, 49, 50, 51, 52, 53, 56, 57, 58, 59, 60, 61, 62, 63, 64, 65, 66, 67] (by decide +kernel) (by decide +kernel)
set_option maxRecDepth 20000 in
theorem gX4_casesAsHeir_X4_heirsAmong : GoodIn wsX4_casesAsHeir (wsV RX4 80 RX4 yX4_heirsAmong wsX4_heirsAmong) := goodIn_app (goodIn_of _ (by decide +kernel)) ggX4_casesAsHeir_X4_heirsAmong
set_option maxRecDepth 20000 in
theorem ggX4_casesAsHeir_X5_power : GoodIn wsX4_casesAsHeir wsX5_power := goodIn_r _ [55] (by decide +kernel) (by decide +kernel)
set_option maxRecDepth 20000 in
theorem gX4_casesAsHeir_X5_power_n127 : GoodIn wsX4_casesAsHeir (wsX5_power) := ggX4_casesAsHeir_X5_power
theorem dX4_casesAsHeir_0 : decode cX4_casesAsHeir 0 = .ok (.aload_n 0, 1) := by decide +kernel
theorem dX4_casesAsHeir_1 : decode cX4_casesAsHeir 1 = .ok (.getfield 23, 3) := by decide +kernel
theorem dX4_casesAsHeir_4 : decode cX4_casesAsHeir 4 = .ok (.iload_n 1, 1) := by decide +kernel
theorem dX4_casesAsHeir_5 : decode cX4_casesAsHeir 5 = .ok (.invokevirtual 63, 3) := by decide +kernel
theorem dX4_casesAsHeir_8 : decode cX4_casesAsHeir 8 = .ok (.istore_n 3, 1) := by decide +kernel
theorem dX4_casesAsHeir_9 : decode cX4_casesAsHeir 9 = .ok (.aload_n 0, 1) := by decide +kernel
theorem dX4_casesAsHeir_10 : decode cX4_casesAsHeir 10 = .ok (.iload_n 1, 1) := by decide +kernel
theorem dX4_casesAsHeir_11 : decode cX4_casesAsHeir 11 = .ok (.invokevirtual 121, 3) := by decide +kernel
theorem dX4_casesAsHeir_14 : decode cX4_casesAsHeir 14 = .ok (.istore 4, 2) := by decide +kernel
theorem dX4_casesAsHeir_16 : decode cX4_casesAsHeir 16 = .ok (.iload 4, 2) := by decide +kernel
theorem dX4_casesAsHeir_18 : decode cX4_casesAsHeir 18 = .ok (.invokestatic 116, 3) := by decide +kernel
theorem dX4_casesAsHeir_21 : decode cX4_casesAsHeir 21 = .ok (.istore 5, 2) := by decide +kernel
theorem dX4_casesAsHeir_23 : decode cX4_casesAsHeir 23 = .ok (.iconst 0, 1) := by decide +kernel
theorem dX4_casesAsHeir_24 : decode cX4_casesAsHeir 24 = .ok (.istore 6, 2) := by decide +kernel
theorem dX4_casesAsHeir_26 : decode cX4_casesAsHeir 26 = .ok (.iconst 0, 1) := by decide +kernel
theorem dX4_casesAsHeir_27 : decode cX4_casesAsHeir 27 = .ok (.istore 7, 2) := by decide +kernel
theorem dX4_casesAsHeir_29 : decode cX4_casesAsHeir 29 = .ok (.iload 7, 2) := by decide +kernel
theorem dX4_casesAsHeir_31 : decode cX4_casesAsHeir 31 = .ok (.bipush 7, 2) := by decide +kernel
theorem dX4_casesAsHeir_33 : decode cX4_casesAsHeir 33 = .ok (.invokestatic 67, 3) := by decide +kernel
theorem dX4_casesAsHeir_36 : decode cX4_casesAsHeir 36 = .ok (.if_icmp .ge 84, 3) := by decide +kernel
theorem dX4_casesAsHeir_39 : decode cX4_casesAsHeir 39 = .ok (.iload 7, 2) := by decide +kernel
theorem dX4_casesAsHeir_41 : decode cX4_casesAsHeir 41 = .ok (.iload 4, 2) := by decide +kernel
theorem dX4_casesAsHeir_43 : decode cX4_casesAsHeir 43 = .ok (.iconst (-1), 1) := by decide +kernel
theorem dX4_casesAsHeir_44 : decode cX4_casesAsHeir 44 = .ok (.ixor, 1) := by decide +kernel
theorem dX4_casesAsHeir_45 : decode cX4_casesAsHeir 45 = .ok (.iand, 1) := by decide +kernel
theorem dX4_casesAsHeir_46 : decode cX4_casesAsHeir 46 = .ok (.ifCond .ne 68, 3) := by decide +kernel
theorem dX4_casesAsHeir_49 : decode cX4_casesAsHeir 49 = .ok (.iload 7, 2) := by decide +kernel
theorem dX4_casesAsHeir_51 : decode cX4_casesAsHeir 51 = .ok (.iload_n 1, 1) := by decide +kernel
theorem dX4_casesAsHeir_52 : decode cX4_casesAsHeir 52 = .ok (.invokestatic 59, 3) := by decide +kernel
theorem dX4_casesAsHeir_55 : decode cX4_casesAsHeir 55 = .ok (.ifCond .ne 6, 3) := by decide +kernel
theorem dX4_casesAsHeir_58 : decode cX4_casesAsHeir 58 = .ok (.goto 56, 3) := by decide +kernel
theorem dX4_casesAsHeir_61 : decode cX4_casesAsHeir 61 = .ok (.aload_n 0, 1) := by decide +kernel
theorem dX4_casesAsHeir_62 : decode cX4_casesAsHeir 62 = .ok (.iload_n 3, 1) := by decide +kernel
theorem dX4_casesAsHeir_63 : decode cX4_casesAsHeir 63 = .ok (.aload_n 0, 1) := by decide +kernel
theorem dX4_casesAsHeir_64 : decode cX4_casesAsHeir 64 = .ok (.iload_n 3, 1) := by decide +kernel
theorem dX4_casesAsHeir_65 : decode cX4_casesAsHeir 65 = .ok (.invokevirtual 106, 3) := by decide +kernel
theorem dX4_casesAsHeir_68 : decode cX4_casesAsHeir 68 = .ok (.iload 7, 2) := by decide +kernel
theorem dX4_casesAsHeir_70 : decode cX4_casesAsHeir 70 = .ok (.invokevirtual 80, 3) := by decide +kernel
theorem dX4_casesAsHeir_73 : decode cX4_casesAsHeir 73 = .ok (.iload_n 1, 1) := by decide +kernel
theorem dX4_casesAsHeir_74 : decode cX4_casesAsHeir 74 = .ok (.invokestatic 59, 3) := by decide +kernel
theorem dX4_casesAsHeir_77 : decode cX4_casesAsHeir 77 = .ok (.ifCond .ne 6, 3) := by decide +kernel
theorem dX4_casesAsHeir_80 : decode cX4_casesAsHeir 80 = .ok (.goto 34, 3) := by decide +kernel
theorem dX4_casesAsHeir_83 : decode cX4_casesAsHeir 83 = .ok (.iload 7, 2) := by decide +kernel
theorem dX4_casesAsHeir_85 : decode cX4_casesAsHeir 85 = .ok (.invokestatic 116, 3) := by decide +kernel
theorem dX4_casesAsHeir_88 : decode cX4_casesAsHeir 88 = .ok (.istore 8, 2) := by decide +kernel
theorem dX4_casesAsHeir_90 : decode cX4_casesAsHeir 90 = .ok (.iload 6, 2) := by decide +kernel
theorem dX4_casesAsHeir_92 : decode cX4_casesAsHeir 92 = .ok (.bipush 10, 2) := by decide +kernel
theorem dX4_casesAsHeir_94 : decode cX4_casesAsHeir 94 = .ok (.iload_n 2, 1) := by decide +kernel
theorem dX4_casesAsHeir_95 : decode cX4_casesAsHeir 95 = .ok (.isub, 1) := by decide +kernel
theorem dX4_casesAsHeir_96 : decode cX4_casesAsHeir 96 = .ok (.iload 8, 2) := by decide +kernel
theorem dX4_casesAsHeir_98 : decode cX4_casesAsHeir 98 = .ok (.invokestatic 127, 3) := by decide +kernel
theorem dX4_casesAsHeir_101 : decode cX4_casesAsHeir 101 = .ok (.iload_n 2, 1) := by decide +kernel
theorem dX4_casesAsHeir_102 : decode cX4_casesAsHeir 102 = .ok (.iload 5, 2) := by decide +kernel
theorem dX4_casesAsHeir_104 : decode cX4_casesAsHeir 104 = .ok (.iload 8, 2) := by decide +kernel
theorem dX4_casesAsHeir_106 : decode cX4_casesAsHeir 106 = .ok (.isub, 1) := by decide +kernel
theorem dX4_casesAsHeir_107 : decode cX4_casesAsHeir 107 = .ok (.invokestatic 127, 3) := by decide +kernel
theorem dX4_casesAsHeir_110 : decode cX4_casesAsHeir 110 = .ok (.imul, 1) := by decide +kernel
theorem dX4_casesAsHeir_111 : decode cX4_casesAsHeir 111 = .ok (.iadd, 1) := by decide +kernel
theorem dX4_casesAsHeir_112 : decode cX4_casesAsHeir 112 = .ok (.istore 6, 2) := by decide +kernel
theorem dX4_casesAsHeir_114 : decode cX4_casesAsHeir 114 = .ok (.iinc 7 1, 3) := by decide +kernel
theorem dX4_casesAsHeir_117 : decode cX4_casesAsHeir 117 = .ok (.goto (-88), 3) := by decide +kernel
theorem dX4_casesAsHeir_120 : decode cX4_casesAsHeir 120 = .ok (.iload 6, 2) := by decide +kernel
theorem dX4_casesAsHeir_122 : decode cX4_casesAsHeir 122 = .ok (.ireturn, 1) := by decide +kernel
set_option maxRecDepth 20000 in
theorem ggX5_init_X3_init : GoodIn wsX5_init wsX3_init := goodIn_r _ [25, 26, 2, 3, 27, 28, 29, 30, 31, 32, 33, 34, 35, 36, 37, 38, 39, 40, 100, 70, 71] (by decide +kernel) (by decide +kernel)
set_option maxRecDepth 20000 in
theorem gX5_init_X3_init : GoodIn wsX5_init (wsX3_init) := ggX5_init_X3_init
set_option maxRecDepth 20000 in
theorem ggX5_init_X4_init : GoodIn wsX5_init wsX4_init := goodIn_r _ [43, 44, 2, 3, 45, 28, 29, 46, 47, 48, 49, 50, 51, 32, 33, 34, 35, 36, 37, 38, 39, 40, 100, 81, 82, 83, 84, 85, 86, 87, 88, 89, 90, 91] (by decide +kernel) (by decide +kernel)
set_option maxRecDepth 20000 in
theorem gX5_init_X4_init : GoodIn wsX5_init (wsX4_init) := ggX5_init_X4_init
set_option maxRecDepth 20000 in
theorem ggX5_init_X0_init : GoodIn wsX5_init wsX0_init := goodIn_r _ [54, 55, 2, 3, 56, 28, 29, 57, 58, 59, 60, 32, 33, 34, 35, 36, 37, 38, 39, 40, 100, 92, 93, 94, 95] (by decide +kernel) (by decide +kernel)
set_option maxRecDepth 20000 in
theorem gX5_init_X0_init : GoodIn wsX5_init (wsX0_init) := ggX5_init_X0_init
set_option maxRecDepth 20000 in
theorem ggX5_init_X2_init : GoodIn wsX5_init wsX2_init := goodIn_r _ [63, 64, 2, 3, 65, 28, 29, 66, 67, 68, 69, 32, 33, 34, 35, 36, 37, 38, 39, 40, 100, 96, 97, 98, 99] (by decide +kernel) (by decide +kernel)
set_option maxRecDepth 20000 in
theorem gX5_init_X2_init : GoodIn wsX5_init (wsX2_init) := ggX5_init_X2_init
theorem dX5_init_0 : decode cX5_init 0 = .ok (.aload_n 0, 1) := by decide +kernel
theorem dX5_init_1 : decode cX5_init 1 = .ok (.invokespecial 1, 3) := by decide +kernel
theorem dX5_init_4 : decode cX5_init 4 = .ok (.aload_n 0, 1) := by decide +kernel
theorem dX5_init_5 : decode cX5_init 5 = .ok (.new 7, 3) := by decide +kernel
theorem dX5_init_8 : decode cX5_init 8 = .ok (.dup, 1) := by decide +kernel
theorem dX5_init_9 : decode cX5_init 9 = .ok (.invokespecial 9, 3) := by decide +kernel
theorem dX5_init_12 : decode cX5_init 12 = .ok (.putfield 10, 3) := by decide +kernel
theorem dX5_init_15 : decode cX5_init 15 = .ok (.aload_n 0, 1) := by decide +kernel
theorem dX5_init_16 : decode cX5_init 16 = .ok (.new 16, 3) := by decide +kernel
theorem dX5_init_19 : decode cX5_init 19 = .ok (.dup, 1) := by decide +kernel
theorem dX5_init_20 : decode cX5_init 20 = .ok (.invokespecial 18, 3) := by decide +kernel
theorem dX5_init_23 : decode cX5_init 23 = .ok (.putfield 19, 3) := by decide +kernel
theorem dX5_init_26 : decode cX5_init 26 = .ok (.aload_n 0, 1) := by decide +kernel
theorem dX5_init_27 : decode cX5_init 27 = .ok (.new 16, 3) := by decide +kernel
theorem dX5_init_30 : decode cX5_init 30 = .ok (.dup, 1) := by decide +kernel
theorem dX5_init_31 : decode cX5_init 31 = .ok (.invokespecial 18, 3) := by decide +kernel
theorem dX5_init_34 : decode cX5_init 34 = .ok (.putfield 23, 3) := by decide +kernel
theorem dX5_init_37 : decode cX5_init 37 = .ok (.aload_n 0, 1) := by decide +kernel
theorem dX5_init_38 : decode cX5_init 38 = .ok (.new 16, 3) := by decide +kernel
theorem dX5_init_41 : decode cX5_init 41 = .ok (.dup, 1) := by decide +kernel
theorem dX5_init_42 : decode cX5_init 42 = .ok (.invokespecial 18, 3) := by decide +kernel
theorem dX5_init_45 : decode cX5_init 45 = .ok (.putfield 26, 3) := by decide +kernel
theorem dX5_init_48 : decode cX5_init 48 = .ok (.aload_n 0, 1) := by decide +kernel
theorem dX5_init_49 : decode cX5_init 49 = .ok (.new 16, 3) := by decide +kernel
theorem dX5_init_52 : decode cX5_init 52 = .ok (.dup, 1) := by decide +kernel
theorem dX5_init_53 : decode cX5_init 53 = .ok (.invokespecial 18, 3) := by decide +kernel
theorem dX5_init_56 : decode cX5_init 56 = .ok (.putfield 29, 3) := by decide +kernel
theorem dX5_init_59 : decode cX5_init 59 = .ok (.aload_n 0, 1) := by decide +kernel
theorem dX5_init_60 : decode cX5_init 60 = .ok (.new 32, 3) := by decide +kernel
theorem dX5_init_63 : decode cX5_init 63 = .ok (.dup, 1) := by decide +kernel
theorem dX5_init_64 : decode cX5_init 64 = .ok (.invokespecial 34, 3) := by decide +kernel
theorem dX5_init_67 : decode cX5_init 67 = .ok (.putfield 35, 3) := by decide +kernel
theorem dX5_init_70 : decode cX5_init 70 = .ok (.aload_n 0, 1) := by decide +kernel
theorem dX5_init_71 : decode cX5_init 71 = .ok (.new 39, 3) := by decide +kernel
theorem dX5_init_74 : decode cX5_init 74 = .ok (.dup, 1) := by decide +kernel
theorem dX5_init_75 : decode cX5_init 75 = .ok (.invokespecial 41, 3) := by decide +kernel
theorem dX5_init_78 : decode cX5_init 78 = .ok (.putfield 42, 3) := by decide +kernel
theorem dX5_init_81 : decode cX5_init 81 = .ok (.return_, 1) := by decide +kernel
set_option maxRecDepth 20000 in
theorem ggX5_write_X3_append : GoodIn wsX5_write wsX3_append := goodIn_r _ [6, 7, 8, 9, 10, 11, 12, 13, 14, 24, 25, 26] (by decide +kernel) (by decide +kernel)
set_option maxRecDepth 20000 in
theorem gX5_write_X3_append : GoodIn wsX5_write (wsV RX5 50 RX3 yX3_append wsX3_append) := goodIn_app (goodIn_of _ (by decide +kernel)) ggX5_write_X3_append
theorem dX5_write_0 : decode cX5_write 0 = .ok (.iload_n 1, 1) := by decide +kernel
theorem dX5_write_1 : decode cX5_write 1 = .ok (.ifCond .lt 10, 3) := by decide +kernel
theorem dX5_write_4 : decode cX5_write 4 = .ok (.iload_n 1, 1) := by decide +kernel
theorem dX5_write_5 : decode cX5_write 5 = .ok (.sipush 255, 3) := by decide +kernel
theorem dX5_write_8 : decode cX5_write 8 = .ok (.if_icmp .le 6, 3) := by decide +kernel
theorem dX5_write_11 : decode cX5_write 11 = .ok (.bipush (-2), 2) := by decide +kernel
theorem dX5_write_13 : decode cX5_write 13 = .ok (.ireturn, 1) := by decide +kernel
theorem dX5_write_14 : decode cX5_write 14 = .ok (.aload_n 0, 1) := by decide +kernel
theorem dX5_write_15 : decode cX5_write 15 = .ok (.getfield 10, 3) := by decide +kernel
theorem dX5_write_18 : decode cX5_write 18 = .ok (.getfield 46, 3) := by decide +kernel
theorem dX5_write_21 : decode cX5_write 21 = .ok (.bipush 48, 2) := by decide +kernel
theorem dX5_write_23 : decode cX5_write 23 = .ok (.if_icmp .lt 6, 3) := by decide +kernel
theorem dX5_write_26 : decode cX5_write 26 = .ok (.bipush (-4), 2) := by decide +kernel
theorem dX5_write_28 : decode cX5_write 28 = .ok (.ireturn, 1) := by decide +kernel
theorem dX5_write_29 : decode cX5_write 29 = .ok (.aload_n 0, 1) := by decide +kernel
theorem dX5_write_30 : decode cX5_write 30 = .ok (.getfield 10, 3) := by decide +kernel
theorem dX5_write_33 : decode cX5_write 33 = .ok (.iload_n 1, 1) := by decide +kernel
theorem dX5_write_34 : decode cX5_write 34 = .ok (.invokevirtual 50, 3) := by decide +kernel
theorem dX5_write_37 : decode cX5_write 37 = .ok (.ireturn, 1) := by decide +kernel
theorem dX5_wipe_0 : decode cX5_wipe 0 = .ok (.aload_n 0, 1) := by decide +kernel
theorem dX5_wipe_1 : decode cX5_wipe 1 = .ok (.getfield 10, 3) := by decide +kernel
theorem dX5_wipe_4 : decode cX5_wipe 4 = .ok (.getfield 46, 3) := by decide +kernel
theorem dX5_wipe_7 : decode cX5_wipe 7 = .ok (.istore_n 1, 1) := by decide +kernel
theorem dX5_wipe_8 : decode cX5_wipe 8 = .ok (.aload_n 0, 1) := by decide +kernel
theorem dX5_wipe_9 : decode cX5_wipe 9 = .ok (.getfield 10, 3) := by decide +kernel
theorem dX5_wipe_12 : decode cX5_wipe 12 = .ok (.iconst 0, 1) := by decide +kernel
theorem dX5_wipe_13 : decode cX5_wipe 13 = .ok (.putfield 46, 3) := by decide +kernel
theorem dX5_wipe_16 : decode cX5_wipe 16 = .ok (.iload_n 1, 1) := by decide +kernel
theorem dX5_wipe_17 : decode cX5_wipe 17 = .ok (.ireturn, 1) := by decide +kernel
set_option maxRecDepth 20000 in
theorem ggX5_fault_X3_readInto : GoodIn wsX5_fault wsX3_readInto := goodIn_r _ [7, 8, 9, 10, 11, 12, 13, 14, 15, 16, 17, 18, 19, 20, 21, 22, 23, 6, 24, 25, 26, 27, 28, 29, 30, 31, 32, 33, 34, 35, 36, 37, 38, 39, 40, 41, 42, 43, 44, 45, 46, 47, 48, 49, 50, 51, 52, 53, 54, 55, 56, 57, 58, 59, 60, 61, 62, 72, 73, 74, 75, 76, 77, 78, 79, 80, 81, 82, 83, 84, 85] (by decide +kernel) (by decide +kernel)
set_option maxRecDepth 20000 in
theorem gX5_fault_X3_readInto : GoodIn wsX5_fault (wsV RX5 54 RX3 yX3_readInto wsX3_readInto) := goodIn_app (goodIn_of _ (by decide +kernel)) ggX5_fault_X3_readInto
theorem dX5_fault_0 : decode cX5_fault 0 = .ok (.aload_n 0, 1) := by decide +kernel
theorem dX5_fault_1 : decode cX5_fault 1 = .ok (.getfield 10, 3) := by decide +kernel
theorem dX5_fault_4 : decode cX5_fault 4 = .ok (.aload_n 0, 1) := by decide +kernel
theorem dX5_fault_5 : decode cX5_fault 5 = .ok (.getfield 23, 3) := by decide +kernel
theorem dX5_fault_8 : decode cX5_fault 8 = .ok (.invokevirtual 54, 3) := by decide +kernel
theorem dX5_fault_11 : decode cX5_fault 11 = .ok (.ireturn, 1) := by decide +kernel
set_option maxRecDepth 20000 in
theorem ggX5_town_X3_readInto : GoodIn wsX5_town wsX3_readInto := goodIn_r _ [10, 11, 12, 13, 14, 15, 16, 17, 18, 19, 20, 21, 22, 23, 24, 25, 26, 9, 27, 28, 29, 30, 31, 32, 33, 34, 35, 36, 37, 38, 39, 40, 41, 42, 43, 44, 45, 46, 47, 48, 49, 50, 51, 52, 53, 54, 55, 56, 57, 58, 59, 60, 61, 62, 63, 64, 65, 99, 100, 88, 89, 90, 91, 92, 93, 94, 95, 96, 97, 98, 101] (by decide +kernel) (by decide +kernel)
set_option maxRecDepth 20000 in
theorem gX5_town_X3_readInto : GoodIn wsX5_town (wsV RX5 54 RX3 yX3_readInto wsX3_readInto) := goodIn_app (goodIn_of _ (by decide +kernel)) ggX5_town_X3_readInto
set_option maxRecDepth 20000 in
theorem ggX5_town_X4_take : GoodIn wsX5_town wsX4_take := goodIn_r _ [69, 18, 19, 20, 21, 22, 23, 50, 62, 63, 64, 65, 70, 71, 72, 31, 73, 33, 74, 29, 30, 32, 88, 89, 90, 91, 92, 93, 94, 95, 96, 97, 98, 101] (by decide +kernel) (by decide +kernel)
set_option maxRecDepth 20000 in
theorem gX5_town_X4_take : GoodIn wsX5_town (wsV RX5 58 RX4 yX4_take wsX4_take) := goodIn_app (goodIn_of _ (by decide +kernel)) ggX5_town_X4_take
theorem dX5_town_0 : decode cX5_town 0 = .ok (.aload_n 0, 1) := by decide +kernel
theorem dX5_town_1 : decode cX5_town 1 = .ok (.getfield 10, 3) := by decide +kernel
theorem dX5_town_4 : decode cX5_town 4 = .ok (.aload_n 0, 1) := by decide +kernel
theorem dX5_town_5 : decode cX5_town 5 = .ok (.getfield 23, 3) := by decide +kernel
theorem dX5_town_8 : decode cX5_town 8 = .ok (.invokevirtual 54, 3) := by decide +kernel
theorem dX5_town_11 : decode cX5_town 11 = .ok (.bipush (-9), 2) := by decide +kernel
theorem dX5_town_13 : decode cX5_town 13 = .ok (.if_icmp .eq 6, 3) := by decide +kernel
theorem dX5_town_16 : decode cX5_town 16 = .ok (.bipush (-3), 2) := by decide +kernel
theorem dX5_town_18 : decode cX5_town 18 = .ok (.ireturn, 1) := by decide +kernel
theorem dX5_town_19 : decode cX5_town 19 = .ok (.aload_n 0, 1) := by decide +kernel
theorem dX5_town_20 : decode cX5_town 20 = .ok (.getfield 19, 3) := by decide +kernel
theorem dX5_town_23 : decode cX5_town 23 = .ok (.aload_n 0, 1) := by decide +kernel
theorem dX5_town_24 : decode cX5_town 24 = .ok (.getfield 23, 3) := by decide +kernel
theorem dX5_town_27 : decode cX5_town 27 = .ok (.invokevirtual 58, 3) := by decide +kernel
theorem dX5_town_30 : decode cX5_town 30 = .ok (.aload_n 0, 1) := by decide +kernel
theorem dX5_town_31 : decode cX5_town 31 = .ok (.getfield 35, 3) := by decide +kernel
theorem dX5_town_34 : decode cX5_town 34 = .ok (.iconst 0, 1) := by decide +kernel
theorem dX5_town_35 : decode cX5_town 35 = .ok (.putfield 62, 3) := by decide +kernel
theorem dX5_town_38 : decode cX5_town 38 = .ok (.aload_n 0, 1) := by decide +kernel
theorem dX5_town_39 : decode cX5_town 39 = .ok (.iconst 0, 1) := by decide +kernel
theorem dX5_town_40 : decode cX5_town 40 = .ok (.putfield 65, 3) := by decide +kernel
theorem dX5_town_43 : decode cX5_town 43 = .ok (.bipush 10, 2) := by decide +kernel
theorem dX5_town_45 : decode cX5_town 45 = .ok (.aload_n 0, 1) := by decide +kernel
theorem dX5_town_46 : decode cX5_town 46 = .ok (.getfield 19, 3) := by decide +kernel
theorem dX5_town_49 : decode cX5_town 49 = .ok (.getfield 68, 3) := by decide +kernel
theorem dX5_town_52 : decode cX5_town 52 = .ok (.imul, 1) := by decide +kernel
theorem dX5_town_53 : decode cX5_town 53 = .ok (.aload_n 0, 1) := by decide +kernel
theorem dX5_town_54 : decode cX5_town 54 = .ok (.getfield 19, 3) := by decide +kernel
theorem dX5_town_57 : decode cX5_town 57 = .ok (.getfield 71, 3) := by decide +kernel
theorem dX5_town_60 : decode cX5_town 60 = .ok (.iadd, 1) := by decide +kernel
theorem dX5_town_61 : decode cX5_town 61 = .ok (.ireturn, 1) := by decide +kernel
theorem dX5_about_0 : decode cX5_about 0 = .ok (.iload_n 1, 1) := by decide +kernel
theorem dX5_about_1 : decode cX5_about 1 = .ok (.tableswitch 123 0 8 #[51, 59, 67, 75, 83, 91, 99, 107, 115], 51) := by decide +kernel
theorem dX5_about_52 : decode cX5_about 52 = .ok (.aload_n 0, 1) := by decide +kernel
theorem dX5_about_53 : decode cX5_about 53 = .ok (.getfield 19, 3) := by decide +kernel
theorem dX5_about_56 : decode cX5_about 56 = .ok (.getfield 68, 3) := by decide +kernel
theorem dX5_about_59 : decode cX5_about 59 = .ok (.ireturn, 1) := by decide +kernel
theorem dX5_about_60 : decode cX5_about 60 = .ok (.aload_n 0, 1) := by decide +kernel
theorem dX5_about_61 : decode cX5_about 61 = .ok (.getfield 19, 3) := by decide +kernel
theorem dX5_about_64 : decode cX5_about 64 = .ok (.getfield 71, 3) := by decide +kernel
theorem dX5_about_67 : decode cX5_about 67 = .ok (.ireturn, 1) := by decide +kernel
theorem dX5_about_68 : decode cX5_about 68 = .ok (.aload_n 0, 1) := by decide +kernel
theorem dX5_about_69 : decode cX5_about 69 = .ok (.getfield 19, 3) := by decide +kernel
theorem dX5_about_72 : decode cX5_about 72 = .ok (.getfield 74, 3) := by decide +kernel
theorem dX5_about_75 : decode cX5_about 75 = .ok (.ireturn, 1) := by decide +kernel
theorem dX5_about_76 : decode cX5_about 76 = .ok (.aload_n 0, 1) := by decide +kernel
theorem dX5_about_77 : decode cX5_about 77 = .ok (.getfield 19, 3) := by decide +kernel
theorem dX5_about_80 : decode cX5_about 80 = .ok (.getfield 77, 3) := by decide +kernel
theorem dX5_about_83 : decode cX5_about 83 = .ok (.ireturn, 1) := by decide +kernel
theorem dX5_about_84 : decode cX5_about 84 = .ok (.aload_n 0, 1) := by decide +kernel
theorem dX5_about_85 : decode cX5_about 85 = .ok (.getfield 19, 3) := by decide +kernel
theorem dX5_about_88 : decode cX5_about 88 = .ok (.getfield 80, 3) := by decide +kernel
theorem dX5_about_91 : decode cX5_about 91 = .ok (.ireturn, 1) := by decide +kernel
theorem dX5_about_92 : decode cX5_about 92 = .ok (.aload_n 0, 1) := by decide +kernel
theorem dX5_about_93 : decode cX5_about 93 = .ok (.getfield 19, 3) := by decide +kernel
theorem dX5_about_96 : decode cX5_about 96 = .ok (.getfield 83, 3) := by decide +kernel
theorem dX5_about_99 : decode cX5_about 99 = .ok (.ireturn, 1) := by decide +kernel
theorem dX5_about_100 : decode cX5_about 100 = .ok (.aload_n 0, 1) := by decide +kernel
theorem dX5_about_101 : decode cX5_about 101 = .ok (.getfield 35, 3) := by decide +kernel
theorem dX5_about_104 : decode cX5_about 104 = .ok (.getfield 62, 3) := by decide +kernel
theorem dX5_about_107 : decode cX5_about 107 = .ok (.ireturn, 1) := by decide +kernel
theorem dX5_about_108 : decode cX5_about 108 = .ok (.aload_n 0, 1) := by decide +kernel
theorem dX5_about_109 : decode cX5_about 109 = .ok (.getfield 42, 3) := by decide +kernel
theorem dX5_about_112 : decode cX5_about 112 = .ok (.getfield 86, 3) := by decide +kernel
theorem dX5_about_115 : decode cX5_about 115 = .ok (.ireturn, 1) := by decide +kernel
theorem dX5_about_116 : decode cX5_about 116 = .ok (.aload_n 0, 1) := by decide +kernel
theorem dX5_about_117 : decode cX5_about 117 = .ok (.getfield 10, 3) := by decide +kernel
theorem dX5_about_120 : decode cX5_about 120 = .ok (.getfield 46, 3) := by decide +kernel
theorem dX5_about_123 : decode cX5_about 123 = .ok (.ireturn, 1) := by decide +kernel
theorem dX5_about_124 : decode cX5_about 124 = .ok (.bipush (-2), 2) := by decide +kernel
theorem dX5_about_126 : decode cX5_about 126 = .ok (.ireturn, 1) := by decide +kernel
set_option maxRecDepth 20000 in
theorem ggX5_child_X4_hasChild : GoodIn wsX5_child wsX4_hasChild := goodIn_r _ [6, 7, 39, 40, 41, 42, 43, 44, 45, 46, 47, 48, 49] (by decide +kernel) (by decide +kernel)
set_option maxRecDepth 20000 in
theorem gX5_child_X4_hasChild : GoodIn wsX5_child (wsV RX5 87 RX4 yX4_hasChild wsX4_hasChild) := goodIn_app (goodIn_of _ (by decide +kernel)) ggX5_child_X4_hasChild
set_option maxRecDepth 20000 in
theorem ggX5_child_X4_ageOf : GoodIn wsX5_child wsX4_ageOf := goodIn_r _ [11, 12, 13, 14, 15, 16, 17, 18, 19, 39, 40, 41, 42, 43, 44, 45, 46, 47, 48, 49, 50] (by decide +kernel) (by decide +kernel)
set_option maxRecDepth 20000 in
theorem gX5_child_X4_ageOf : GoodIn wsX5_child (wsV RX5 91 RX4 yX4_ageOf wsX4_ageOf) := goodIn_app (goodIn_of _ (by decide +kernel)) ggX5_child_X4_ageOf
set_option maxRecDepth 20000 in
theorem ggX5_child_X1_get : GoodIn wsX5_child wsX1_get := goodIn_r _ [18, 19, 50] (by decide +kernel) (by decide +kernel)
set_option maxRecDepth 20000 in
theorem gX5_child_X1_get : GoodIn wsX5_child (wsV RX5 98 RX1 yX1_get wsX1_get) := goodIn_app (goodIn_of _ (by decide +kernel)) ggX5_child_X1_get
set_option maxRecDepth 20000 in
theorem ggX5_child_X4_isAlive : GoodIn wsX5_child wsX4_isAlive := goodIn_r _ [24, 25, 26, 3, 4, 5, 6, 7, 27, 28, 29, 39, 40, 41, 42, 43, 44, 45, 46, 47, 48, 49] (by decide +kernel) (by decide +kernel)
set_option maxRecDepth 20000 in
theorem gX5_child_X4_isAlive : GoodIn wsX5_child (wsV RX5 109 RX4 yX4_isAlive wsX4_isAlive) := goodIn_app (goodIn_of _ (by decide +kernel)) ggX5_child_X4_isAlive
theorem dX5_child_0 : decode cX5_child 0 = .ok (.aload_n 0, 1) := by decide +kernel
theorem dX5_child_1 : decode cX5_child 1 = .ok (.getfield 19, 3) := by decide +kernel
theorem dX5_child_4 : decode cX5_child 4 = .ok (.iload_n 1, 1) := by decide +kernel
theorem dX5_child_5 : decode cX5_child 5 = .ok (.invokevirtual 87, 3) := by decide +kernel
theorem dX5_child_8 : decode cX5_child 8 = .ok (.ifCond .ne 5, 3) := by decide +kernel
theorem dX5_child_11 : decode cX5_child 11 = .ok (.iconst (-1), 1) := by decide +kernel
theorem dX5_child_12 : decode cX5_child 12 = .ok (.ireturn, 1) := by decide +kernel
theorem dX5_child_13 : decode cX5_child 13 = .ok (.iload_n 2, 1) := by decide +kernel
theorem dX5_child_14 : decode cX5_child 14 = .ok (.tableswitch 96 0 4 #[34, 43, 55, 67, 79], 34) := by decide +kernel
theorem dX5_child_48 : decode cX5_child 48 = .ok (.aload_n 0, 1) := by decide +kernel
theorem dX5_child_49 : decode cX5_child 49 = .ok (.getfield 19, 3) := by decide +kernel
theorem dX5_child_52 : decode cX5_child 52 = .ok (.iload_n 1, 1) := by decide +kernel
theorem dX5_child_53 : decode cX5_child 53 = .ok (.invokevirtual 91, 3) := by decide +kernel
theorem dX5_child_56 : decode cX5_child 56 = .ok (.ireturn, 1) := by decide +kernel
theorem dX5_child_57 : decode cX5_child 57 = .ok (.aload_n 0, 1) := by decide +kernel
theorem dX5_child_58 : decode cX5_child 58 = .ok (.getfield 19, 3) := by decide +kernel
theorem dX5_child_61 : decode cX5_child 61 = .ok (.getfield 94, 3) := by decide +kernel
theorem dX5_child_64 : decode cX5_child 64 = .ok (.iload_n 1, 1) := by decide +kernel
theorem dX5_child_65 : decode cX5_child 65 = .ok (.invokevirtual 98, 3) := by decide +kernel
theorem dX5_child_68 : decode cX5_child 68 = .ok (.ireturn, 1) := by decide +kernel
theorem dX5_child_69 : decode cX5_child 69 = .ok (.aload_n 0, 1) := by decide +kernel
theorem dX5_child_70 : decode cX5_child 70 = .ok (.getfield 19, 3) := by decide +kernel
theorem dX5_child_73 : decode cX5_child 73 = .ok (.getfield 103, 3) := by decide +kernel
theorem dX5_child_76 : decode cX5_child 76 = .ok (.iload_n 1, 1) := by decide +kernel
theorem dX5_child_77 : decode cX5_child 77 = .ok (.invokevirtual 98, 3) := by decide +kernel
theorem dX5_child_80 : decode cX5_child 80 = .ok (.ireturn, 1) := by decide +kernel
theorem dX5_child_81 : decode cX5_child 81 = .ok (.aload_n 0, 1) := by decide +kernel
theorem dX5_child_82 : decode cX5_child 82 = .ok (.getfield 19, 3) := by decide +kernel
theorem dX5_child_85 : decode cX5_child 85 = .ok (.getfield 106, 3) := by decide +kernel
theorem dX5_child_88 : decode cX5_child 88 = .ok (.iload_n 1, 1) := by decide +kernel
theorem dX5_child_89 : decode cX5_child 89 = .ok (.invokevirtual 98, 3) := by decide +kernel
theorem dX5_child_92 : decode cX5_child 92 = .ok (.ireturn, 1) := by decide +kernel
theorem dX5_child_93 : decode cX5_child 93 = .ok (.aload_n 0, 1) := by decide +kernel
theorem dX5_child_94 : decode cX5_child 94 = .ok (.getfield 19, 3) := by decide +kernel
theorem dX5_child_97 : decode cX5_child 97 = .ok (.iload_n 1, 1) := by decide +kernel
theorem dX5_child_98 : decode cX5_child 98 = .ok (.invokevirtual 109, 3) := by decide +kernel
theorem dX5_child_101 : decode cX5_child 101 = .ok (.ifCond .eq 7, 3) := by decide +kernel
theorem dX5_child_104 : decode cX5_child 104 = .ok (.iconst 1, 1) := by decide +kernel
theorem dX5_child_105 : decode cX5_child 105 = .ok (.goto 4, 3) := by decide +kernel
theorem dX5_child_108 : decode cX5_child 108 = .ok (.iconst 0, 1) := by decide +kernel
theorem dX5_child_109 : decode cX5_child 109 = .ok (.ireturn, 1) := by decide +kernel
theorem dX5_child_110 : decode cX5_child 110 = .ok (.bipush (-2), 2) := by decide +kernel
theorem dX5_child_112 : decode cX5_child 112 = .ok (.ireturn, 1) := by decide +kernel
set_option maxRecDepth 20000 in
theorem ggX5_heirs_X4_hasHouse : GoodIn wsX5_heirs wsX4_hasHouse := goodIn_r _ [6, 7, 49, 50, 51, 52, 53, 54, 55, 56, 57, 58, 59] (by decide +kernel) (by decide +kernel)
set_option maxRecDepth 20000 in
theorem gX5_heirs_X4_hasHouse : GoodIn wsX5_heirs (wsV RX5 112 RX4 yX4_hasHouse wsX4_hasHouse) := goodIn_app (goodIn_of _ (by decide +kernel)) ggX5_heirs_X4_hasHouse
set_option maxRecDepth 20000 in
theorem ggX5_heirs_X4_sideOf : GoodIn wsX5_heirs wsX4_sideOf := goodIn_r _ [11, 12, 13, 14, 15, 49, 50, 51, 52, 53, 54, 55, 56, 57, 58, 59] (by decide +kernel) (by decide +kernel)
set_option maxRecDepth 20000 in
theorem gX5_heirs_X4_sideOf : GoodIn wsX5_heirs (wsV RX5 115 RX4 yX4_sideOf wsX4_sideOf) := goodIn_app (goodIn_of _ (by decide +kernel)) ggX5_heirs_X4_sideOf
set_option maxRecDepth 20000 in
theorem ggX5_heirs_X4_heirsAmong : GoodIn wsX5_heirs wsX4_heirsAmong := goodIn_r _ [19, 20, 21, 22, 23, 24, 25, 26, 27, 28, 13, 14, 15, 29, 30, 31, 32, 33, 5, 34, 35, 36, 37, 38, 39, 49, 50, 51, 52, 53, 54, 55, 56, 57, 58, 59, 60] (by decide +kernel) (by decide +kernel)
set_option maxRecDepth 20000 in
theorem gX5_heirs_X4_heirsAmong : GoodIn wsX5_heirs (wsV RX5 118 RX4 yX4_heirsAmong wsX4_heirsAmong) := goodIn_app (goodIn_of _ (by decide +kernel)) ggX5_heirs_X4_heirsAmong
theorem dX5_heirs_0 : decode cX5_heirs 0 = .ok (.aload_n 0, 1) := by decide +kernel
theorem dX5_heirs_1 : decode cX5_heirs 1 = .ok (.getfield 19, 3) := by decide +kernel
theorem dX5_heirs_4 : decode cX5_heirs 4 = .ok (.iload_n 1, 1) := by decide +kernel
theorem dX5_heirs_5 : decode cX5_heirs 5 = .ok (.invokevirtual 112, 3) := by decide +kernel
theorem dX5_heirs_8 : decode cX5_heirs 8 = .ok (.ifCond .ne 5, 3) := by decide +kernel
theorem dX5_heirs_11 : decode cX5_heirs 11 = .ok (.iconst (-1), 1) := by decide +kernel
theorem dX5_heirs_12 : decode cX5_heirs 12 = .ok (.ireturn, 1) := by decide +kernel
theorem dX5_heirs_13 : decode cX5_heirs 13 = .ok (.iload_n 2, 1) := by decide +kernel
theorem dX5_heirs_14 : decode cX5_heirs 14 = .ok (.ifCond .lt 8, 3) := by decide +kernel
theorem dX5_heirs_17 : decode cX5_heirs 17 = .ok (.iload_n 2, 1) := by decide +kernel
theorem dX5_heirs_18 : decode cX5_heirs 18 = .ok (.iconst 2, 1) := by decide +kernel
theorem dX5_heirs_19 : decode cX5_heirs 19 = .ok (.if_icmp .le 6, 3) := by decide +kernel
theorem dX5_heirs_22 : decode cX5_heirs 22 = .ok (.bipush (-2), 2) := by decide +kernel
theorem dX5_heirs_24 : decode cX5_heirs 24 = .ok (.ireturn, 1) := by decide +kernel
theorem dX5_heirs_25 : decode cX5_heirs 25 = .ok (.aload_n 0, 1) := by decide +kernel
theorem dX5_heirs_26 : decode cX5_heirs 26 = .ok (.getfield 19, 3) := by decide +kernel
theorem dX5_heirs_29 : decode cX5_heirs 29 = .ok (.iload_n 1, 1) := by decide +kernel
theorem dX5_heirs_30 : decode cX5_heirs 30 = .ok (.iload_n 2, 1) := by decide +kernel
theorem dX5_heirs_31 : decode cX5_heirs 31 = .ok (.iconst 2, 1) := by decide +kernel
theorem dX5_heirs_32 : decode cX5_heirs 32 = .ok (.if_icmp .ne 14, 3) := by decide +kernel
theorem dX5_heirs_35 : decode cX5_heirs 35 = .ok (.aload_n 0, 1) := by decide +kernel
theorem dX5_heirs_36 : decode cX5_heirs 36 = .ok (.getfield 19, 3) := by decide +kernel
theorem dX5_heirs_39 : decode cX5_heirs 39 = .ok (.iload_n 1, 1) := by decide +kernel
theorem dX5_heirs_40 : decode cX5_heirs 40 = .ok (.invokevirtual 115, 3) := by decide +kernel
theorem dX5_heirs_43 : decode cX5_heirs 43 = .ok (.goto 4, 3) := by decide +kernel
theorem dX5_heirs_46 : decode cX5_heirs 46 = .ok (.iload_n 2, 1) := by decide +kernel
theorem dX5_heirs_47 : decode cX5_heirs 47 = .ok (.aload_n 0, 1) := by decide +kernel
theorem dX5_heirs_48 : decode cX5_heirs 48 = .ok (.getfield 19, 3) := by decide +kernel
theorem dX5_heirs_51 : decode cX5_heirs 51 = .ok (.getfield 74, 3) := by decide +kernel
theorem dX5_heirs_54 : decode cX5_heirs 54 = .ok (.invokevirtual 118, 3) := by decide +kernel
theorem dX5_heirs_57 : decode cX5_heirs 57 = .ok (.ireturn, 1) := by decide +kernel
set_option maxRecDepth 20000 in
theorem ggX5_bear_X4_hasHouse : GoodIn wsX5_bear wsX4_hasHouse := goodIn_r _ [7, 8, 52, 53, 54, 55, 56, 57, 58, 59, 60, 61, 62] (by decide +kernel) (by decide +kernel)
set_option maxRecDepth 20000 in
theorem gX5_bear_X4_hasHouse : GoodIn wsX5_bear (wsV RX5 112 RX4 yX4_hasHouse wsX4_hasHouse) := goodIn_app (goodIn_of _ (by decide +kernel)) ggX5_bear_X4_hasHouse
set_option maxRecDepth 20000 in
theorem ggX5_bear_X4_addChild : GoodIn wsX5_bear wsX4_addChild := goodIn_r _ [12, 13, 14, 15, 16, 17, 18, 19, 20, 21, 22, 23, 24, 25, 26, 27, 28, 52, 53, 54, 55, 56, 57, 58, 59, 60, 61, 62, 63] (by decide +kernel) (by decide +kernel)
set_option maxRecDepth 20000 in
theorem gX5_bear_X4_addChild : GoodIn wsX5_bear (wsV RX5 122 RX4 yX4_addChild wsX4_addChild) := goodIn_app (goodIn_of _ (by decide +kernel)) ggX5_bear_X4_addChild
set_option maxRecDepth 20000 in
theorem ggX5_bear_X0_add : GoodIn wsX5_bear wsX0_add := goodIn_r _ [33, 34, 35, 36, 37, 38, 39, 40, 23, 41, 25, 42, 21, 22, 24, 64, 65, 66, 67, 63] (by decide +kernel) (by decide +kernel)
set_option maxRecDepth 20000 in
theorem gX5_bear_X0_add : GoodIn wsX5_bear (wsV RX5 125 RX0 yX0_add wsX0_add) := goodIn_app (goodIn_of _ (by decide +kernel)) ggX5_bear_X0_add
theorem dX5_bear_0 : decode cX5_bear 0 = .ok (.aload_n 0, 1) := by decide +kernel
theorem dX5_bear_1 : decode cX5_bear 1 = .ok (.getfield 19, 3) := by decide +kernel
theorem dX5_bear_4 : decode cX5_bear 4 = .ok (.iload_n 1, 1) := by decide +kernel
theorem dX5_bear_5 : decode cX5_bear 5 = .ok (.invokevirtual 112, 3) := by decide +kernel
theorem dX5_bear_8 : decode cX5_bear 8 = .ok (.ifCond .ne 5, 3) := by decide +kernel
theorem dX5_bear_11 : decode cX5_bear 11 = .ok (.iconst (-1), 1) := by decide +kernel
theorem dX5_bear_12 : decode cX5_bear 12 = .ok (.ireturn, 1) := by decide +kernel
theorem dX5_bear_13 : decode cX5_bear 13 = .ok (.iload_n 2, 1) := by decide +kernel
theorem dX5_bear_14 : decode cX5_bear 14 = .ok (.ifCond .lt 8, 3) := by decide +kernel
theorem dX5_bear_17 : decode cX5_bear 17 = .ok (.iload_n 2, 1) := by decide +kernel
theorem dX5_bear_18 : decode cX5_bear 18 = .ok (.iconst 3, 1) := by decide +kernel
theorem dX5_bear_19 : decode cX5_bear 19 = .ok (.if_icmp .le 6, 3) := by decide +kernel
theorem dX5_bear_22 : decode cX5_bear 22 = .ok (.bipush (-2), 2) := by decide +kernel
theorem dX5_bear_24 : decode cX5_bear 24 = .ok (.ireturn, 1) := by decide +kernel
theorem dX5_bear_25 : decode cX5_bear 25 = .ok (.aload_n 0, 1) := by decide +kernel
theorem dX5_bear_26 : decode cX5_bear 26 = .ok (.getfield 19, 3) := by decide +kernel
theorem dX5_bear_29 : decode cX5_bear 29 = .ok (.getfield 71, 3) := by decide +kernel
theorem dX5_bear_32 : decode cX5_bear 32 = .ok (.bipush 7, 2) := by decide +kernel
theorem dX5_bear_34 : decode cX5_bear 34 = .ok (.if_icmp .lt 6, 3) := by decide +kernel
theorem dX5_bear_37 : decode cX5_bear 37 = .ok (.bipush (-4), 2) := by decide +kernel
theorem dX5_bear_39 : decode cX5_bear 39 = .ok (.ireturn, 1) := by decide +kernel
theorem dX5_bear_40 : decode cX5_bear 40 = .ok (.aload_n 0, 1) := by decide +kernel
theorem dX5_bear_41 : decode cX5_bear 41 = .ok (.getfield 19, 3) := by decide +kernel
theorem dX5_bear_44 : decode cX5_bear 44 = .ok (.iconst 0, 1) := by decide +kernel
theorem dX5_bear_45 : decode cX5_bear 45 = .ok (.iload_n 1, 1) := by decide +kernel
theorem dX5_bear_46 : decode cX5_bear 46 = .ok (.iload_n 2, 1) := by decide +kernel
theorem dX5_bear_47 : decode cX5_bear 47 = .ok (.invokevirtual 122, 3) := by decide +kernel
theorem dX5_bear_50 : decode cX5_bear 50 = .ok (.istore_n 3, 1) := by decide +kernel
theorem dX5_bear_51 : decode cX5_bear 51 = .ok (.aload_n 0, 1) := by decide +kernel
theorem dX5_bear_52 : decode cX5_bear 52 = .ok (.getfield 35, 3) := by decide +kernel
theorem dX5_bear_55 : decode cX5_bear 55 = .ok (.iconst 0, 1) := by decide +kernel
theorem dX5_bear_56 : decode cX5_bear 56 = .ok (.iload_n 3, 1) := by decide +kernel
theorem dX5_bear_57 : decode cX5_bear 57 = .ok (.iconst 0, 1) := by decide +kernel
theorem dX5_bear_58 : decode cX5_bear 58 = .ok (.invokevirtual 125, 3) := by decide +kernel
theorem dX5_bear_61 : decode cX5_bear 61 = .ok (.iload_n 3, 1) := by decide +kernel
theorem dX5_bear_62 : decode cX5_bear 62 = .ok (.ireturn, 1) := by decide +kernel
set_option maxRecDepth 20000 in
theorem ggX5_die_X4_hasChild : GoodIn wsX5_die wsX4_hasChild := goodIn_r _ [7, 8, 59, 60, 61, 62, 63, 64, 65, 66, 67, 68, 69] (by decide +kernel) (by decide +kernel)
set_option maxRecDepth 20000 in
theorem gX5_die_X4_hasChild : GoodIn wsX5_die (wsV RX5 87 RX4 yX4_hasChild wsX4_hasChild) := goodIn_app (goodIn_of _ (by decide +kernel)) ggX5_die_X4_hasChild
set_option maxRecDepth 20000 in
theorem ggX5_die_X4_isAlive : GoodIn wsX5_die wsX4_isAlive := goodIn_r _ [12, 13, 14, 4, 5, 6, 7, 8, 15, 16, 17, 59, 60, 61, 62, 63, 64, 65, 66, 67, 68, 69] (by decide +kernel) (by decide +kernel)
set_option maxRecDepth 20000 in
theorem gX5_die_X4_isAlive : GoodIn wsX5_die (wsV RX5 109 RX4 yX4_isAlive wsX4_isAlive) := goodIn_app (goodIn_of _ (by decide +kernel)) ggX5_die_X4_isAlive
set_option maxRecDepth 20000 in
theorem ggX5_die_X4_flipLife : GoodIn wsX5_die wsX4_flipLife := goodIn_r _ [21, 13, 22, 16, 23, 59, 60, 61, 62, 63, 64, 65, 66, 67, 68, 69] (by decide +kernel) (by decide +kernel)
set_option maxRecDepth 20000 in
theorem gX5_die_X4_flipLife : GoodIn wsX5_die (wsV RX5 129 RX4 yX4_flipLife wsX4_flipLife) := goodIn_app (goodIn_of _ (by decide +kernel)) ggX5_die_X4_flipLife
set_option maxRecDepth 20000 in
theorem ggX5_die_X0_add : GoodIn wsX5_die wsX0_add := goodIn_r _ [28, 29, 30, 31, 32, 33, 34, 35, 36, 37, 38, 39, 40, 41, 42, 70, 71, 72, 73, 74] (by decide +kernel) (by decide +kernel)
set_option maxRecDepth 20000 in
theorem gX5_die_X0_add : GoodIn wsX5_die (wsV RX5 125 RX0 yX0_add wsX0_add) := goodIn_app (goodIn_of _ (by decide +kernel)) ggX5_die_X0_add
set_option maxRecDepth 20000 in
theorem ggX5_die_J6_bitCount_0f7a4 : GoodIn wsX5_die wsJ6_bitCount_0f7a4 := goodIn_r _ [46, 47, 48, 49] (by decide +kernel) (by decide +kernel)
set_option maxRecDepth 20000 in
theorem gX5_die_J6_bitCount_0f7a4 : GoodIn wsX5_die (va_wsS RX5 133 yJ6_bitCount_0f7a4 wsJ6_bitCount_0f7a4) := goodIn_app (goodIn_of _ (by decide +kernel)) ggX5_die_J6_bitCount_0f7a4
theorem dX5_die_0 : decode cX5_die 0 = .ok (.aload_n 0, 1) := by decide +kernel
theorem dX5_die_1 : decode cX5_die 1 = .ok (.getfield 19, 3) := by decide +kernel
theorem dX5_die_4 : decode cX5_die 4 = .ok (.iload_n 1, 1) := by decide +kernel
theorem dX5_die_5 : decode cX5_die 5 = .ok (.invokevirtual 87, 3) := by decide +kernel
theorem dX5_die_8 : decode cX5_die 8 = .ok (.ifCond .ne 5, 3) := by decide +kernel
theorem dX5_die_11 : decode cX5_die 11 = .ok (.iconst (-1), 1) := by decide +kernel
theorem dX5_die_12 : decode cX5_die 12 = .ok (.ireturn, 1) := by decide +kernel
theorem dX5_die_13 : decode cX5_die 13 = .ok (.aload_n 0, 1) := by decide +kernel
theorem dX5_die_14 : decode cX5_die 14 = .ok (.getfield 19, 3) := by decide +kernel
theorem dX5_die_17 : decode cX5_die 17 = .ok (.iload_n 1, 1) := by decide +kernel
theorem dX5_die_18 : decode cX5_die 18 = .ok (.invokevirtual 109, 3) := by decide +kernel
theorem dX5_die_21 : decode cX5_die 21 = .ok (.ifCond .ne 6, 3) := by decide +kernel
theorem dX5_die_24 : decode cX5_die 24 = .ok (.bipush (-3), 2) := by decide +kernel
theorem dX5_die_26 : decode cX5_die 26 = .ok (.ireturn, 1) := by decide +kernel
theorem dX5_die_27 : decode cX5_die 27 = .ok (.aload_n 0, 1) := by decide +kernel
theorem dX5_die_28 : decode cX5_die 28 = .ok (.getfield 19, 3) := by decide +kernel
theorem dX5_die_31 : decode cX5_die 31 = .ok (.iload_n 1, 1) := by decide +kernel
theorem dX5_die_32 : decode cX5_die 32 = .ok (.invokevirtual 129, 3) := by decide +kernel
theorem dX5_die_35 : decode cX5_die 35 = .ok (.aload_n 0, 1) := by decide +kernel
theorem dX5_die_36 : decode cX5_die 36 = .ok (.getfield 35, 3) := by decide +kernel
theorem dX5_die_39 : decode cX5_die 39 = .ok (.iconst 1, 1) := by decide +kernel
theorem dX5_die_40 : decode cX5_die 40 = .ok (.iload_n 1, 1) := by decide +kernel
theorem dX5_die_41 : decode cX5_die 41 = .ok (.iconst 0, 1) := by decide +kernel
theorem dX5_die_42 : decode cX5_die 42 = .ok (.invokevirtual 125, 3) := by decide +kernel
theorem dX5_die_45 : decode cX5_die 45 = .ok (.aload_n 0, 1) := by decide +kernel
theorem dX5_die_46 : decode cX5_die 46 = .ok (.getfield 19, 3) := by decide +kernel
theorem dX5_die_49 : decode cX5_die 49 = .ok (.getfield 74, 3) := by decide +kernel
theorem dX5_die_52 : decode cX5_die 52 = .ok (.invokestatic 133, 3) := by decide +kernel
theorem dX5_die_55 : decode cX5_die 55 = .ok (.ireturn, 1) := by decide +kernel
set_option maxRecDepth 20000 in
theorem ggX5_move_X4_hasChild : GoodIn wsX5_move wsX4_hasChild := goodIn_r _ [7, 8, 47, 48, 49, 50, 51, 52, 53, 54, 55, 56, 57] (by decide +kernel) (by decide +kernel)
set_option maxRecDepth 20000 in
theorem gX5_move_X4_hasChild : GoodIn wsX5_move (wsV RX5 87 RX4 yX4_hasChild wsX4_hasChild) := goodIn_app (goodIn_of _ (by decide +kernel)) ggX5_move_X4_hasChild
set_option maxRecDepth 20000 in
theorem ggX5_move_X4_hasHouse : GoodIn wsX5_move wsX4_hasHouse := goodIn_r _ [12, 13, 47, 48, 49, 50, 51, 52, 53, 54, 55, 56, 57] (by decide +kernel) (by decide +kernel)
set_option maxRecDepth 20000 in
theorem gX5_move_X4_hasHouse : GoodIn wsX5_move (wsV RX5 112 RX4 yX4_hasHouse wsX4_hasHouse) := goodIn_app (goodIn_of _ (by decide +kernel)) ggX5_move_X4_hasHouse
set_option maxRecDepth 20000 in
theorem ggX5_move_X1_get : GoodIn wsX5_move wsX1_get := goodIn_r _ [18, 19, 58] (by decide +kernel) (by decide +kernel)
set_option maxRecDepth 20000 in
theorem gX5_move_X1_get : GoodIn wsX5_move (wsV RX5 98 RX1 yX1_get wsX1_get) := goodIn_app (goodIn_of _ (by decide +kernel)) ggX5_move_X1_get
set_option maxRecDepth 20000 in
theorem ggX5_move_X1_set : GoodIn wsX5_move wsX1_set := goodIn_r _ [23, 19, 58] (by decide +kernel) (by decide +kernel)
set_option maxRecDepth 20000 in
theorem gX5_move_X1_set : GoodIn wsX5_move (wsV RX5 138 RX1 yX1_set wsX1_set) := goodIn_app (goodIn_of _ (by decide +kernel)) ggX5_move_X1_set
set_option maxRecDepth 20000 in
theorem ggX5_move_X0_add : GoodIn wsX5_move wsX0_add := goodIn_r _ [28, 29, 30, 31, 32, 33, 34, 35, 17, 36, 19, 37, 21, 22, 23, 59, 60, 61, 62, 58] (by decide +kernel) (by decide +kernel)
set_option maxRecDepth 20000 in
theorem gX5_move_X0_add : GoodIn wsX5_move (wsV RX5 125 RX0 yX0_add wsX0_add) := goodIn_app (goodIn_of _ (by decide +kernel)) ggX5_move_X0_add
theorem dX5_move_0 : decode cX5_move 0 = .ok (.aload_n 0, 1) := by decide +kernel
theorem dX5_move_1 : decode cX5_move 1 = .ok (.getfield 19, 3) := by decide +kernel
theorem dX5_move_4 : decode cX5_move 4 = .ok (.iload_n 1, 1) := by decide +kernel
theorem dX5_move_5 : decode cX5_move 5 = .ok (.invokevirtual 87, 3) := by decide +kernel
theorem dX5_move_8 : decode cX5_move 8 = .ok (.ifCond .eq 14, 3) := by decide +kernel
theorem dX5_move_11 : decode cX5_move 11 = .ok (.aload_n 0, 1) := by decide +kernel
theorem dX5_move_12 : decode cX5_move 12 = .ok (.getfield 19, 3) := by decide +kernel
theorem dX5_move_15 : decode cX5_move 15 = .ok (.iload_n 2, 1) := by decide +kernel
theorem dX5_move_16 : decode cX5_move 16 = .ok (.invokevirtual 112, 3) := by decide +kernel
theorem dX5_move_19 : decode cX5_move 19 = .ok (.ifCond .ne 5, 3) := by decide +kernel
theorem dX5_move_22 : decode cX5_move 22 = .ok (.iconst (-1), 1) := by decide +kernel
theorem dX5_move_23 : decode cX5_move 23 = .ok (.ireturn, 1) := by decide +kernel
theorem dX5_move_24 : decode cX5_move 24 = .ok (.aload_n 0, 1) := by decide +kernel
theorem dX5_move_25 : decode cX5_move 25 = .ok (.getfield 19, 3) := by decide +kernel
theorem dX5_move_28 : decode cX5_move 28 = .ok (.getfield 94, 3) := by decide +kernel
theorem dX5_move_31 : decode cX5_move 31 = .ok (.iload_n 1, 1) := by decide +kernel
theorem dX5_move_32 : decode cX5_move 32 = .ok (.invokevirtual 98, 3) := by decide +kernel
theorem dX5_move_35 : decode cX5_move 35 = .ok (.istore_n 3, 1) := by decide +kernel
theorem dX5_move_36 : decode cX5_move 36 = .ok (.iload_n 3, 1) := by decide +kernel
theorem dX5_move_37 : decode cX5_move 37 = .ok (.iload_n 2, 1) := by decide +kernel
theorem dX5_move_38 : decode cX5_move 38 = .ok (.if_icmp .ne 6, 3) := by decide +kernel
theorem dX5_move_41 : decode cX5_move 41 = .ok (.bipush (-3), 2) := by decide +kernel
theorem dX5_move_43 : decode cX5_move 43 = .ok (.ireturn, 1) := by decide +kernel
theorem dX5_move_44 : decode cX5_move 44 = .ok (.aload_n 0, 1) := by decide +kernel
theorem dX5_move_45 : decode cX5_move 45 = .ok (.getfield 19, 3) := by decide +kernel
theorem dX5_move_48 : decode cX5_move 48 = .ok (.getfield 94, 3) := by decide +kernel
theorem dX5_move_51 : decode cX5_move 51 = .ok (.iload_n 1, 1) := by decide +kernel
theorem dX5_move_52 : decode cX5_move 52 = .ok (.iload_n 2, 1) := by decide +kernel
theorem dX5_move_53 : decode cX5_move 53 = .ok (.invokevirtual 138, 3) := by decide +kernel
theorem dX5_move_56 : decode cX5_move 56 = .ok (.aload_n 0, 1) := by decide +kernel
theorem dX5_move_57 : decode cX5_move 57 = .ok (.getfield 35, 3) := by decide +kernel
theorem dX5_move_60 : decode cX5_move 60 = .ok (.iconst 2, 1) := by decide +kernel
theorem dX5_move_61 : decode cX5_move 61 = .ok (.iload_n 1, 1) := by decide +kernel
theorem dX5_move_62 : decode cX5_move 62 = .ok (.iload_n 3, 1) := by decide +kernel
theorem dX5_move_63 : decode cX5_move 63 = .ok (.invokevirtual 125, 3) := by decide +kernel
theorem dX5_move_66 : decode cX5_move 66 = .ok (.iload_n 3, 1) := by decide +kernel
theorem dX5_move_67 : decode cX5_move 67 = .ok (.ireturn, 1) := by decide +kernel
set_option maxRecDepth 20000 in
theorem ggX5_roll_X4_hasHouse : GoodIn wsX5_roll wsX4_hasHouse := goodIn_r _ [7, 8, 51, 52, 53, 54, 55, 56, 57, 58, 59, 60, 61] (by decide +kernel) (by decide +kernel)
set_option maxRecDepth 20000 in
theorem gX5_roll_X4_hasHouse : GoodIn wsX5_roll (wsV RX5 112 RX4 yX4_hasHouse wsX4_hasHouse) := goodIn_app (goodIn_of _ (by decide +kernel)) ggX5_roll_X4_hasHouse
set_option maxRecDepth 20000 in
theorem ggX5_roll_X4_flipSide : GoodIn wsX5_roll wsX4_flipSide := goodIn_r _ [12, 13, 14, 15, 16, 51, 52, 53, 54, 55, 56, 57, 58, 59, 60, 61] (by decide +kernel) (by decide +kernel)
set_option maxRecDepth 20000 in
theorem gX5_roll_X4_flipSide : GoodIn wsX5_roll (wsV RX5 142 RX4 yX4_flipSide wsX4_flipSide) := goodIn_app (goodIn_of _ (by decide +kernel)) ggX5_roll_X4_flipSide
set_option maxRecDepth 20000 in
theorem ggX5_roll_X0_add : GoodIn wsX5_roll wsX0_add := goodIn_r _ [21, 22, 23, 24, 25, 26, 27, 28, 29, 30, 31, 32, 33, 34, 35, 62, 63, 64, 65, 66] (by decide +kernel) (by decide +kernel)
set_option maxRecDepth 20000 in
theorem gX5_roll_X0_add : GoodIn wsX5_roll (wsV RX5 125 RX0 yX0_add wsX0_add) := goodIn_app (goodIn_of _ (by decide +kernel)) ggX5_roll_X0_add
set_option maxRecDepth 20000 in
theorem ggX5_roll_X4_sideOf : GoodIn wsX5_roll wsX4_sideOf := goodIn_r _ [39, 13, 40, 15, 41, 51, 52, 53, 54, 55, 56, 57, 58, 59, 60, 61] (by decide +kernel) (by decide +kernel)
set_option maxRecDepth 20000 in
theorem gX5_roll_X4_sideOf : GoodIn wsX5_roll (wsV RX5 115 RX4 yX4_sideOf wsX4_sideOf) := goodIn_app (goodIn_of _ (by decide +kernel)) ggX5_roll_X4_sideOf
theorem dX5_roll_0 : decode cX5_roll 0 = .ok (.aload_n 0, 1) := by decide +kernel
theorem dX5_roll_1 : decode cX5_roll 1 = .ok (.getfield 19, 3) := by decide +kernel
theorem dX5_roll_4 : decode cX5_roll 4 = .ok (.iload_n 1, 1) := by decide +kernel
theorem dX5_roll_5 : decode cX5_roll 5 = .ok (.invokevirtual 112, 3) := by decide +kernel
theorem dX5_roll_8 : decode cX5_roll 8 = .ok (.ifCond .ne 5, 3) := by decide +kernel
theorem dX5_roll_11 : decode cX5_roll 11 = .ok (.iconst (-1), 1) := by decide +kernel
theorem dX5_roll_12 : decode cX5_roll 12 = .ok (.ireturn, 1) := by decide +kernel
theorem dX5_roll_13 : decode cX5_roll 13 = .ok (.aload_n 0, 1) := by decide +kernel
theorem dX5_roll_14 : decode cX5_roll 14 = .ok (.getfield 19, 3) := by decide +kernel
theorem dX5_roll_17 : decode cX5_roll 17 = .ok (.iload_n 1, 1) := by decide +kernel
theorem dX5_roll_18 : decode cX5_roll 18 = .ok (.invokevirtual 142, 3) := by decide +kernel
theorem dX5_roll_21 : decode cX5_roll 21 = .ok (.aload_n 0, 1) := by decide +kernel
theorem dX5_roll_22 : decode cX5_roll 22 = .ok (.getfield 35, 3) := by decide +kernel
theorem dX5_roll_25 : decode cX5_roll 25 = .ok (.iconst 3, 1) := by decide +kernel
theorem dX5_roll_26 : decode cX5_roll 26 = .ok (.iload_n 1, 1) := by decide +kernel
theorem dX5_roll_27 : decode cX5_roll 27 = .ok (.iconst 0, 1) := by decide +kernel
theorem dX5_roll_28 : decode cX5_roll 28 = .ok (.invokevirtual 125, 3) := by decide +kernel
theorem dX5_roll_31 : decode cX5_roll 31 = .ok (.aload_n 0, 1) := by decide +kernel
theorem dX5_roll_32 : decode cX5_roll 32 = .ok (.getfield 19, 3) := by decide +kernel
theorem dX5_roll_35 : decode cX5_roll 35 = .ok (.iload_n 1, 1) := by decide +kernel
theorem dX5_roll_36 : decode cX5_roll 36 = .ok (.invokevirtual 115, 3) := by decide +kernel
theorem dX5_roll_39 : decode cX5_roll 39 = .ok (.ireturn, 1) := by decide +kernel
set_option maxRecDepth 20000 in
theorem ggX5_inherit_X4_hasHouse : GoodIn wsX5_inherit wsX4_hasHouse := goodIn_r _ [7, 8, 100, 101, 102, 103, 104, 105, 106, 107, 108, 109, 110] (by decide +kernel) (by decide +kernel)
set_option maxRecDepth 20000 in
theorem gX5_inherit_X4_hasHouse : GoodIn wsX5_inherit (wsV RX5 112 RX4 yX4_hasHouse wsX4_hasHouse) := goodIn_app (goodIn_of _ (by decide +kernel)) ggX5_inherit_X4_hasHouse
set_option maxRecDepth 20000 in
theorem ggX5_inherit_X4_canPass : GoodIn wsX5_inherit wsX4_canPass := goodIn_r _ [12, 13, 14, 15, 4, 5, 6, 7, 8, 16, 17, 18, 19, 20, 21, 22, 23, 24, 25, 26, 27, 28, 29, 30, 31, 32, 33, 34, 35, 36, 37, 38, 39, 40, 41, 42, 100, 101, 102, 103, 104, 105, 106, 107, 108, 109, 110, 111] (by decide +kernel) (by decide +kernel)
set_option maxRecDepth 20000 in
theorem gX5_inherit_X4_canPass : GoodIn wsX5_inherit (wsV RX5 145 RX4 yX4_canPass wsX4_canPass) := goodIn_app (goodIn_of _ (by decide +kernel)) ggX5_inherit_X4_canPass
set_option maxRecDepth 20000 in
theorem ggX5_inherit_X4_heirsOf : GoodIn wsX5_inherit wsX4_heirsOf := goodIn_r _ [46, 14, 47, 48, 49, 6, 50, 51, 16, 17, 18, 19, 20, 21, 22, 23, 24, 25, 26, 27, 28, 29, 30, 31, 32, 33, 34, 35, 36, 37, 38, 39, 40, 41, 42, 100, 101, 102, 103, 104, 105, 106, 107, 108, 109, 110, 111] (by decide +kernel) (by decide +kernel)
set_option maxRecDepth 20000 in
theorem gX5_inherit_X4_heirsOf : GoodIn wsX5_inherit (wsV RX5 148 RX4 yX4_heirsOf wsX4_heirsOf) := goodIn_app (goodIn_of _ (by decide +kernel)) ggX5_inherit_X4_heirsOf
set_option maxRecDepth 20000 in
theorem ggX5_inherit_X4_passTo : GoodIn wsX5_inherit wsX4_passTo := goodIn_r _ [55, 13, 32, 17, 33, 56, 57, 58, 6, 59, 60, 26, 27, 28, 29, 30, 31, 61, 62, 63, 64, 65, 66, 67, 68, 69, 70, 71, 23, 72, 16, 18, 73, 74, 75, 76, 100, 101, 102, 103, 104, 105, 106, 107, 108, 109, 110, 111] (by decide +kernel) (by decide +kernel)
set_option maxRecDepth 20000 in
theorem gX5_inherit_X4_passTo : GoodIn wsX5_inherit (wsV RX5 151 RX4 yX4_passTo wsX4_passTo) := goodIn_app (goodIn_of _ (by decide +kernel)) ggX5_inherit_X4_passTo
set_option maxRecDepth 20000 in
theorem ggX5_inherit_X0_add : GoodIn wsX5_inherit wsX0_add := goodIn_r _ [81, 82, 83, 84, 85, 86, 87, 88, 29, 89, 31, 90, 74, 75, 76, 112, 113, 114, 115, 111] (by decide +kernel) (by decide +kernel)
set_option maxRecDepth 20000 in
theorem gX5_inherit_X0_add : GoodIn wsX5_inherit (wsV RX5 125 RX0 yX0_add wsX0_add) := goodIn_app (goodIn_of _ (by decide +kernel)) ggX5_inherit_X0_add
theorem dX5_inherit_0 : decode cX5_inherit 0 = .ok (.aload_n 0, 1) := by decide +kernel
theorem dX5_inherit_1 : decode cX5_inherit 1 = .ok (.getfield 19, 3) := by decide +kernel
theorem dX5_inherit_4 : decode cX5_inherit 4 = .ok (.iload_n 1, 1) := by decide +kernel
theorem dX5_inherit_5 : decode cX5_inherit 5 = .ok (.invokevirtual 112, 3) := by decide +kernel
theorem dX5_inherit_8 : decode cX5_inherit 8 = .ok (.ifCond .ne 5, 3) := by decide +kernel
theorem dX5_inherit_11 : decode cX5_inherit 11 = .ok (.iconst (-1), 1) := by decide +kernel
theorem dX5_inherit_12 : decode cX5_inherit 12 = .ok (.ireturn, 1) := by decide +kernel
theorem dX5_inherit_13 : decode cX5_inherit 13 = .ok (.aload_n 0, 1) := by decide +kernel
theorem dX5_inherit_14 : decode cX5_inherit 14 = .ok (.getfield 19, 3) := by decide +kernel
theorem dX5_inherit_17 : decode cX5_inherit 17 = .ok (.iload_n 1, 1) := by decide +kernel
theorem dX5_inherit_18 : decode cX5_inherit 18 = .ok (.invokevirtual 145, 3) := by decide +kernel
theorem dX5_inherit_21 : decode cX5_inherit 21 = .ok (.ifCond .ne 6, 3) := by decide +kernel
theorem dX5_inherit_24 : decode cX5_inherit 24 = .ok (.bipush (-3), 2) := by decide +kernel
theorem dX5_inherit_26 : decode cX5_inherit 26 = .ok (.ireturn, 1) := by decide +kernel
theorem dX5_inherit_27 : decode cX5_inherit 27 = .ok (.aload_n 0, 1) := by decide +kernel
theorem dX5_inherit_28 : decode cX5_inherit 28 = .ok (.getfield 19, 3) := by decide +kernel
theorem dX5_inherit_31 : decode cX5_inherit 31 = .ok (.iload_n 1, 1) := by decide +kernel
theorem dX5_inherit_32 : decode cX5_inherit 32 = .ok (.invokevirtual 148, 3) := by decide +kernel
theorem dX5_inherit_35 : decode cX5_inherit 35 = .ok (.istore_n 2, 1) := by decide +kernel
theorem dX5_inherit_36 : decode cX5_inherit 36 = .ok (.aload_n 0, 1) := by decide +kernel
theorem dX5_inherit_37 : decode cX5_inherit 37 = .ok (.getfield 19, 3) := by decide +kernel
theorem dX5_inherit_40 : decode cX5_inherit 40 = .ok (.iload_n 1, 1) := by decide +kernel
theorem dX5_inherit_41 : decode cX5_inherit 41 = .ok (.iload_n 2, 1) := by decide +kernel
theorem dX5_inherit_42 : decode cX5_inherit 42 = .ok (.invokevirtual 151, 3) := by decide +kernel
theorem dX5_inherit_45 : decode cX5_inherit 45 = .ok (.aload_n 0, 1) := by decide +kernel
theorem dX5_inherit_46 : decode cX5_inherit 46 = .ok (.getfield 35, 3) := by decide +kernel
theorem dX5_inherit_49 : decode cX5_inherit 49 = .ok (.iconst 4, 1) := by decide +kernel
theorem dX5_inherit_50 : decode cX5_inherit 50 = .ok (.iload_n 1, 1) := by decide +kernel
theorem dX5_inherit_51 : decode cX5_inherit 51 = .ok (.iload_n 2, 1) := by decide +kernel
theorem dX5_inherit_52 : decode cX5_inherit 52 = .ok (.invokevirtual 125, 3) := by decide +kernel
theorem dX5_inherit_55 : decode cX5_inherit 55 = .ok (.iload_n 2, 1) := by decide +kernel
theorem dX5_inherit_56 : decode cX5_inherit 56 = .ok (.ireturn, 1) := by decide +kernel
set_option maxRecDepth 20000 in
theorem ggX5_year_X0_add : GoodIn wsX5_year wsX0_add := goodIn_r _ [7, 8, 9, 10, 11, 12, 13, 14, 15, 16, 17, 18, 19, 20, 21, 42, 43, 44, 45, 46] (by decide +kernel) (by decide +kernel)
set_option maxRecDepth 20000 in
theorem gX5_year_X0_add : GoodIn wsX5_year (wsV RX5 125 RX0 yX0_add wsX0_add) := goodIn_app (goodIn_of _ (by decide +kernel)) ggX5_year_X0_add
theorem dX5_year_0 : decode cX5_year 0 = .ok (.aload_n 0, 1) := by decide +kernel
theorem dX5_year_1 : decode cX5_year 1 = .ok (.getfield 19, 3) := by decide +kernel
theorem dX5_year_4 : decode cX5_year 4 = .ok (.dup, 1) := by decide +kernel
theorem dX5_year_5 : decode cX5_year 5 = .ok (.getfield 83, 3) := by decide +kernel
theorem dX5_year_8 : decode cX5_year 8 = .ok (.iconst 1, 1) := by decide +kernel
theorem dX5_year_9 : decode cX5_year 9 = .ok (.iadd, 1) := by decide +kernel
theorem dX5_year_10 : decode cX5_year 10 = .ok (.putfield 83, 3) := by decide +kernel
theorem dX5_year_13 : decode cX5_year 13 = .ok (.aload_n 0, 1) := by decide +kernel
theorem dX5_year_14 : decode cX5_year 14 = .ok (.getfield 35, 3) := by decide +kernel
theorem dX5_year_17 : decode cX5_year 17 = .ok (.iconst 5, 1) := by decide +kernel
theorem dX5_year_18 : decode cX5_year 18 = .ok (.iconst 0, 1) := by decide +kernel
theorem dX5_year_19 : decode cX5_year 19 = .ok (.iconst 0, 1) := by decide +kernel
theorem dX5_year_20 : decode cX5_year 20 = .ok (.invokevirtual 125, 3) := by decide +kernel
theorem dX5_year_23 : decode cX5_year 23 = .ok (.aload_n 0, 1) := by decide +kernel
theorem dX5_year_24 : decode cX5_year 24 = .ok (.getfield 19, 3) := by decide +kernel
theorem dX5_year_27 : decode cX5_year 27 = .ok (.getfield 83, 3) := by decide +kernel
theorem dX5_year_30 : decode cX5_year 30 = .ok (.ireturn, 1) := by decide +kernel
set_option maxRecDepth 20000 in
theorem ggX5_undo_X0_takeLastBack : GoodIn wsX5_undo wsX0_takeLastBack := goodIn_r _ [7, 8, 9, 10, 11, 12, 13, 14, 15, 16, 17, 18, 19, 20, 21, 22, 23, 24, 25, 26, 27, 28, 29, 30, 31, 32, 33, 34, 35, 36, 37, 38, 39, 40, 41, 42, 43, 44, 45, 46, 47, 48, 49, 50, 51, 52, 53, 54, 55, 56, 57, 58, 59, 60, 61, 62, 63, 64, 65, 66, 76, 77, 78, 79, 80, 81, 82, 83, 84, 85, 86, 87, 88, 89, 90, 91] (by decide +kernel) (by decide +kernel)
set_option maxRecDepth 20000 in
theorem gX5_undo_X0_takeLastBack : GoodIn wsX5_undo (wsV RX5 154 RX0 yX0_takeLastBack wsX0_takeLastBack) := goodIn_app (goodIn_of _ (by decide +kernel)) ggX5_undo_X0_takeLastBack
theorem dX5_undo_0 : decode cX5_undo 0 = .ok (.aload_n 0, 1) := by decide +kernel
theorem dX5_undo_1 : decode cX5_undo 1 = .ok (.getfield 35, 3) := by decide +kernel
theorem dX5_undo_4 : decode cX5_undo 4 = .ok (.getfield 62, 3) := by decide +kernel
theorem dX5_undo_7 : decode cX5_undo 7 = .ok (.ifCond .gt 6, 3) := by decide +kernel
theorem dX5_undo_10 : decode cX5_undo 10 = .ok (.bipush (-3), 2) := by decide +kernel
theorem dX5_undo_12 : decode cX5_undo 12 = .ok (.ireturn, 1) := by decide +kernel
theorem dX5_undo_13 : decode cX5_undo 13 = .ok (.aload_n 0, 1) := by decide +kernel
theorem dX5_undo_14 : decode cX5_undo 14 = .ok (.getfield 35, 3) := by decide +kernel
theorem dX5_undo_17 : decode cX5_undo 17 = .ok (.aload_n 0, 1) := by decide +kernel
theorem dX5_undo_18 : decode cX5_undo 18 = .ok (.getfield 19, 3) := by decide +kernel
theorem dX5_undo_21 : decode cX5_undo 21 = .ok (.invokevirtual 154, 3) := by decide +kernel
theorem dX5_undo_24 : decode cX5_undo 24 = .ok (.aload_n 0, 1) := by decide +kernel
theorem dX5_undo_25 : decode cX5_undo 25 = .ok (.getfield 35, 3) := by decide +kernel
theorem dX5_undo_28 : decode cX5_undo 28 = .ok (.getfield 62, 3) := by decide +kernel
theorem dX5_undo_31 : decode cX5_undo 31 = .ok (.ireturn, 1) := by decide +kernel
set_option maxRecDepth 20000 in
theorem ggX5_gets_X4_hasChild : GoodIn wsX5_gets wsX4_hasChild := goodIn_r _ [6, 7, 71, 72, 73, 74, 75, 76, 77, 78, 79, 80, 81] (by decide +kernel) (by decide +kernel)
set_option maxRecDepth 20000 in
theorem gX5_gets_X4_hasChild : GoodIn wsX5_gets (wsV RX5 87 RX4 yX4_hasChild wsX4_hasChild) := goodIn_app (goodIn_of _ (by decide +kernel)) ggX5_gets_X4_hasChild
set_option maxRecDepth 20000 in
theorem ggX5_gets_X4_wealthInAll : GoodIn wsX5_gets wsX4_wealthInAll := goodIn_r _ [11, 12, 13, 14, 15, 16, 17, 18, 19, 20, 21, 22, 23, 24, 25, 26, 5, 27, 28, 29, 30, 31, 32, 33, 34, 35, 36, 37, 7, 38, 39, 40, 41, 42, 43, 44, 45, 46, 47, 48, 49, 50, 51, 52, 53, 54, 55, 56, 57, 58, 59, 60, 61, 71, 72, 73, 74, 75, 76, 77, 78, 79, 80, 81, 82] (by decide +kernel) (by decide +kernel)
set_option maxRecDepth 20000 in
theorem gX5_gets_X4_wealthInAll : GoodIn wsX5_gets (wsV RX5 157 RX4 yX4_wealthInAll wsX4_wealthInAll) := goodIn_app (goodIn_of _ (by decide +kernel)) ggX5_gets_X4_wealthInAll
theorem dX5_gets_0 : decode cX5_gets 0 = .ok (.aload_n 0, 1) := by decide +kernel
theorem dX5_gets_1 : decode cX5_gets 1 = .ok (.getfield 19, 3) := by decide +kernel
theorem dX5_gets_4 : decode cX5_gets 4 = .ok (.iload_n 1, 1) := by decide +kernel
theorem dX5_gets_5 : decode cX5_gets 5 = .ok (.invokevirtual 87, 3) := by decide +kernel
theorem dX5_gets_8 : decode cX5_gets 8 = .ok (.ifCond .ne 5, 3) := by decide +kernel
theorem dX5_gets_11 : decode cX5_gets 11 = .ok (.iconst (-1), 1) := by decide +kernel
theorem dX5_gets_12 : decode cX5_gets 12 = .ok (.ireturn, 1) := by decide +kernel
theorem dX5_gets_13 : decode cX5_gets 13 = .ok (.aload_n 0, 1) := by decide +kernel
theorem dX5_gets_14 : decode cX5_gets 14 = .ok (.getfield 19, 3) := by decide +kernel
theorem dX5_gets_17 : decode cX5_gets 17 = .ok (.iload_n 1, 1) := by decide +kernel
theorem dX5_gets_18 : decode cX5_gets 18 = .ok (.invokevirtual 157, 3) := by decide +kernel
theorem dX5_gets_21 : decode cX5_gets 21 = .ok (.ireturn, 1) := by decide +kernel
set_option maxRecDepth 20000 in
theorem ggX5_way_X4_hasChild : GoodIn wsX5_way wsX4_hasChild := goodIn_r _ [6, 7, 75, 76, 77, 78, 79, 80, 81, 82, 83, 84, 85] (by decide +kernel) (by decide +kernel)
set_option maxRecDepth 20000 in
theorem gX5_way_X4_hasChild : GoodIn wsX5_way (wsV RX5 87 RX4 yX4_hasChild wsX4_hasChild) := goodIn_app (goodIn_of _ (by decide +kernel)) ggX5_way_X4_hasChild
set_option maxRecDepth 20000 in
theorem ggX5_way_X4_hasHouse : GoodIn wsX5_way wsX4_hasHouse := goodIn_r _ [11, 12, 75, 76, 77, 78, 79, 80, 81, 82, 83, 84, 85] (by decide +kernel) (by decide +kernel)
set_option maxRecDepth 20000 in
theorem gX5_way_X4_hasHouse : GoodIn wsX5_way (wsV RX5 112 RX4 yX4_hasHouse wsX4_hasHouse) := goodIn_app (goodIn_of _ (by decide +kernel)) ggX5_way_X4_hasHouse
set_option maxRecDepth 20000 in
theorem ggX5_way_X4_isAlive : GoodIn wsX5_way wsX4_isAlive := goodIn_r _ [16, 17, 18, 3, 4, 5, 6, 7, 19, 20, 21, 75, 76, 77, 78, 79, 80, 81, 82, 83, 84, 85] (by decide +kernel) (by decide +kernel)
set_option maxRecDepth 20000 in
theorem gX5_way_X4_isAlive : GoodIn wsX5_way (wsV RX5 109 RX4 yX4_isAlive wsX4_isAlive) := goodIn_app (goodIn_of _ (by decide +kernel)) ggX5_way_X4_isAlive
set_option maxRecDepth 20000 in
theorem ggX5_way_X4_fewestInTheWay : GoodIn wsX5_way wsX4_fewestInTheWay := goodIn_r _ [25, 26, 17, 27, 28, 29, 30, 31, 32, 33, 34, 35, 5, 36, 7, 37, 14, 15, 16, 18, 3, 4, 6, 19, 20, 21, 38, 39, 40, 41, 42, 43, 44, 45, 46, 47, 48, 49, 50, 51, 52, 53, 54, 55, 56, 57, 58, 59, 60, 61, 62, 63, 64, 65, 75, 76, 77, 78, 79, 80, 81, 82, 83, 84, 85, 86] (by decide +kernel) (by decide +kernel)
set_option maxRecDepth 20000 in
theorem gX5_way_X4_fewestInTheWay : GoodIn wsX5_way (wsV RX5 160 RX4 yX4_fewestInTheWay wsX4_fewestInTheWay) := goodIn_app (goodIn_of _ (by decide +kernel)) ggX5_way_X4_fewestInTheWay
theorem dX5_way_0 : decode cX5_way 0 = .ok (.aload_n 0, 1) := by decide +kernel
theorem dX5_way_1 : decode cX5_way 1 = .ok (.getfield 19, 3) := by decide +kernel
theorem dX5_way_4 : decode cX5_way 4 = .ok (.iload_n 1, 1) := by decide +kernel
theorem dX5_way_5 : decode cX5_way 5 = .ok (.invokevirtual 87, 3) := by decide +kernel
theorem dX5_way_8 : decode cX5_way 8 = .ok (.ifCond .eq 14, 3) := by decide +kernel
theorem dX5_way_11 : decode cX5_way 11 = .ok (.aload_n 0, 1) := by decide +kernel
theorem dX5_way_12 : decode cX5_way 12 = .ok (.getfield 19, 3) := by decide +kernel
theorem dX5_way_15 : decode cX5_way 15 = .ok (.iload_n 2, 1) := by decide +kernel
theorem dX5_way_16 : decode cX5_way 16 = .ok (.invokevirtual 112, 3) := by decide +kernel
theorem dX5_way_19 : decode cX5_way 19 = .ok (.ifCond .ne 5, 3) := by decide +kernel
theorem dX5_way_22 : decode cX5_way 22 = .ok (.iconst (-1), 1) := by decide +kernel
theorem dX5_way_23 : decode cX5_way 23 = .ok (.ireturn, 1) := by decide +kernel
theorem dX5_way_24 : decode cX5_way 24 = .ok (.aload_n 0, 1) := by decide +kernel
theorem dX5_way_25 : decode cX5_way 25 = .ok (.getfield 19, 3) := by decide +kernel
theorem dX5_way_28 : decode cX5_way 28 = .ok (.iload_n 1, 1) := by decide +kernel
theorem dX5_way_29 : decode cX5_way 29 = .ok (.invokevirtual 109, 3) := by decide +kernel
theorem dX5_way_32 : decode cX5_way 32 = .ok (.ifCond .ne 6, 3) := by decide +kernel
theorem dX5_way_35 : decode cX5_way 35 = .ok (.bipush (-3), 2) := by decide +kernel
theorem dX5_way_37 : decode cX5_way 37 = .ok (.ireturn, 1) := by decide +kernel
theorem dX5_way_38 : decode cX5_way 38 = .ok (.aload_n 0, 1) := by decide +kernel
theorem dX5_way_39 : decode cX5_way 39 = .ok (.getfield 19, 3) := by decide +kernel
theorem dX5_way_42 : decode cX5_way 42 = .ok (.iload_n 1, 1) := by decide +kernel
theorem dX5_way_43 : decode cX5_way 43 = .ok (.iload_n 2, 1) := by decide +kernel
theorem dX5_way_44 : decode cX5_way 44 = .ok (.invokevirtual 160, 3) := by decide +kernel
theorem dX5_way_47 : decode cX5_way 47 = .ok (.ireturn, 1) := by decide +kernel
set_option maxRecDepth 20000 in
theorem ggX5_rollFor_X4_hasChild : GoodIn wsX5_rollFor wsX4_hasChild := goodIn_r _ [7, 8, 88, 89, 90, 91, 92, 93, 94, 95, 96, 97, 98] (by decide +kernel) (by decide +kernel)
set_option maxRecDepth 20000 in
theorem gX5_rollFor_X4_hasChild : GoodIn wsX5_rollFor (wsV RX5 87 RX4 yX4_hasChild wsX4_hasChild) := goodIn_app (goodIn_of _ (by decide +kernel)) ggX5_rollFor_X4_hasChild
set_option maxRecDepth 20000 in
theorem ggX5_rollFor_X4_take : GoodIn wsX5_rollFor wsX4_take := goodIn_r _ [12, 13, 8, 14, 15, 16, 17, 18, 19, 20, 21, 22, 23, 24, 25, 26, 27, 28, 29, 30, 31, 32, 88, 89, 90, 91, 92, 93, 94, 95, 96, 97, 98, 99] (by decide +kernel) (by decide +kernel)
set_option maxRecDepth 20000 in
theorem gX5_rollFor_X4_take : GoodIn wsX5_rollFor (wsV RX5 58 RX4 yX4_take wsX4_take) := goodIn_app (goodIn_of _ (by decide +kernel)) ggX5_rollFor_X4_take
set_option maxRecDepth 20000 in
theorem ggX5_rollFor_X4_housesLeft : GoodIn wsX5_rollFor wsX4_housesLeft := goodIn_r _ [36, 13, 16, 37, 38, 39, 88, 89, 90, 91, 92, 93, 94, 95, 96, 97, 98] (by decide +kernel) (by decide +kernel)
set_option maxRecDepth 20000 in
theorem gX5_rollFor_X4_housesLeft : GoodIn wsX5_rollFor (wsV RX5 164 RX4 yX4_housesLeft wsX4_housesLeft) := goodIn_app (goodIn_of _ (by decide +kernel)) ggX5_rollFor_X4_housesLeft
set_option maxRecDepth 20000 in
theorem ggX5_rollFor_X4_wealthInAll : GoodIn wsX5_rollFor wsX4_wealthInAll := goodIn_r _ [43, 20, 16, 22, 44, 30, 31, 26, 32, 28, 45, 38, 46, 47, 48, 49, 6, 50, 14, 51, 52, 53, 54, 15, 55, 56, 57, 58, 8, 21, 37, 39, 59, 60, 61, 62, 63, 64, 65, 66, 19, 67, 68, 69, 70, 18, 71, 72, 73, 74, 75, 76, 77, 88, 89, 90, 91, 92, 93, 94, 95, 96, 97, 98, 99] (by decide +kernel) (by decide +kernel)
set_option maxRecDepth 20000 in
theorem gX5_rollFor_X4_wealthInAll : GoodIn wsX5_rollFor (wsV RX5 157 RX4 yX4_wealthInAll wsX4_wealthInAll) := goodIn_app (goodIn_of _ (by decide +kernel)) ggX5_rollFor_X4_wealthInAll
set_option maxRecDepth 20000 in
theorem ggX5_rollFor_J6_bitCount_0f7a4 : GoodIn wsX5_rollFor wsJ6_bitCount_0f7a4 := goodIn_r _ [74, 75, 76, 77] (by decide +kernel) (by decide +kernel)
set_option maxRecDepth 20000 in
theorem gX5_rollFor_J6_bitCount_0f7a4 : GoodIn wsX5_rollFor (va_wsS RX5 133 yJ6_bitCount_0f7a4 wsJ6_bitCount_0f7a4) := goodIn_app (goodIn_of _ (by decide +kernel)) ggX5_rollFor_J6_bitCount_0f7a4
theorem dX5_rollFor_0 : decode cX5_rollFor 0 = .ok (.aload_n 0, 1) := by decide +kernel
theorem dX5_rollFor_1 : decode cX5_rollFor 1 = .ok (.getfield 19, 3) := by decide +kernel
theorem dX5_rollFor_4 : decode cX5_rollFor 4 = .ok (.iload_n 1, 1) := by decide +kernel
theorem dX5_rollFor_5 : decode cX5_rollFor 5 = .ok (.invokevirtual 87, 3) := by decide +kernel
theorem dX5_rollFor_8 : decode cX5_rollFor 8 = .ok (.ifCond .ne 5, 3) := by decide +kernel
theorem dX5_rollFor_11 : decode cX5_rollFor 11 = .ok (.iconst (-1), 1) := by decide +kernel
theorem dX5_rollFor_12 : decode cX5_rollFor 12 = .ok (.ireturn, 1) := by decide +kernel
theorem dX5_rollFor_13 : decode cX5_rollFor 13 = .ok (.iload_n 2, 1) := by decide +kernel
theorem dX5_rollFor_14 : decode cX5_rollFor 14 = .ok (.ifCond .lt 8, 3) := by decide +kernel
theorem dX5_rollFor_17 : decode cX5_rollFor 17 = .ok (.iload_n 2, 1) := by decide +kernel
theorem dX5_rollFor_18 : decode cX5_rollFor 18 = .ok (.iconst 1, 1) := by decide +kernel
theorem dX5_rollFor_19 : decode cX5_rollFor 19 = .ok (.if_icmp .le 6, 3) := by decide +kernel
theorem dX5_rollFor_22 : decode cX5_rollFor 22 = .ok (.bipush (-2), 2) := by decide +kernel
theorem dX5_rollFor_24 : decode cX5_rollFor 24 = .ok (.ireturn, 1) := by decide +kernel
theorem dX5_rollFor_25 : decode cX5_rollFor 25 = .ok (.aload_n 0, 1) := by decide +kernel
theorem dX5_rollFor_26 : decode cX5_rollFor 26 = .ok (.getfield 23, 3) := by decide +kernel
theorem dX5_rollFor_29 : decode cX5_rollFor 29 = .ok (.aload_n 0, 1) := by decide +kernel
theorem dX5_rollFor_30 : decode cX5_rollFor 30 = .ok (.getfield 19, 3) := by decide +kernel
theorem dX5_rollFor_33 : decode cX5_rollFor 33 = .ok (.invokevirtual 58, 3) := by decide +kernel
theorem dX5_rollFor_36 : decode cX5_rollFor 36 = .ok (.iconst (-1), 1) := by decide +kernel
theorem dX5_rollFor_37 : decode cX5_rollFor 37 = .ok (.istore_n 3, 1) := by decide +kernel
theorem dX5_rollFor_38 : decode cX5_rollFor 38 = .ok (.iconst 0, 1) := by decide +kernel
theorem dX5_rollFor_39 : decode cX5_rollFor 39 = .ok (.istore 4, 2) := by decide +kernel
theorem dX5_rollFor_41 : decode cX5_rollFor 41 = .ok (.iconst 0, 1) := by decide +kernel
theorem dX5_rollFor_42 : decode cX5_rollFor 42 = .ok (.istore 5, 2) := by decide +kernel
theorem dX5_rollFor_44 : decode cX5_rollFor 44 = .ok (.iload 5, 2) := by decide +kernel
theorem dX5_rollFor_46 : decode cX5_rollFor 46 = .ok (.bipush 8, 2) := by decide +kernel
theorem dX5_rollFor_48 : decode cX5_rollFor 48 = .ok (.if_icmp .ge 98, 3) := by decide +kernel
theorem dX5_rollFor_51 : decode cX5_rollFor 51 = .ok (.iload 5, 2) := by decide +kernel
theorem dX5_rollFor_53 : decode cX5_rollFor 53 = .ok (.aload_n 0, 1) := by decide +kernel
theorem dX5_rollFor_54 : decode cX5_rollFor 54 = .ok (.getfield 19, 3) := by decide +kernel
theorem dX5_rollFor_57 : decode cX5_rollFor 57 = .ok (.invokevirtual 164, 3) := by decide +kernel
theorem dX5_rollFor_60 : decode cX5_rollFor 60 = .ok (.iconst (-1), 1) := by decide +kernel
theorem dX5_rollFor_61 : decode cX5_rollFor 61 = .ok (.ixor, 1) := by decide +kernel
theorem dX5_rollFor_62 : decode cX5_rollFor 62 = .ok (.iand, 1) := by decide +kernel
theorem dX5_rollFor_63 : decode cX5_rollFor 63 = .ok (.ifCond .eq 6, 3) := by decide +kernel
theorem dX5_rollFor_66 : decode cX5_rollFor 66 = .ok (.goto 74, 3) := by decide +kernel
theorem dX5_rollFor_69 : decode cX5_rollFor 69 = .ok (.aload_n 0, 1) := by decide +kernel
theorem dX5_rollFor_70 : decode cX5_rollFor 70 = .ok (.getfield 23, 3) := by decide +kernel
theorem dX5_rollFor_73 : decode cX5_rollFor 73 = .ok (.aload_n 0, 1) := by decide +kernel
theorem dX5_rollFor_74 : decode cX5_rollFor 74 = .ok (.getfield 19, 3) := by decide +kernel
theorem dX5_rollFor_77 : decode cX5_rollFor 77 = .ok (.getfield 77, 3) := by decide +kernel
theorem dX5_rollFor_80 : decode cX5_rollFor 80 = .ok (.iload 5, 2) := by decide +kernel
theorem dX5_rollFor_82 : decode cX5_rollFor 82 = .ok (.ixor, 1) := by decide +kernel
theorem dX5_rollFor_83 : decode cX5_rollFor 83 = .ok (.putfield 77, 3) := by decide +kernel
theorem dX5_rollFor_86 : decode cX5_rollFor 86 = .ok (.aload_n 0, 1) := by decide +kernel
theorem dX5_rollFor_87 : decode cX5_rollFor 87 = .ok (.getfield 23, 3) := by decide +kernel
theorem dX5_rollFor_90 : decode cX5_rollFor 90 = .ok (.iload_n 1, 1) := by decide +kernel
theorem dX5_rollFor_91 : decode cX5_rollFor 91 = .ok (.invokevirtual 157, 3) := by decide +kernel
theorem dX5_rollFor_94 : decode cX5_rollFor 94 = .ok (.istore 6, 2) := by decide +kernel
theorem dX5_rollFor_96 : decode cX5_rollFor 96 = .ok (.iload 5, 2) := by decide +kernel
theorem dX5_rollFor_98 : decode cX5_rollFor 98 = .ok (.invokestatic 133, 3) := by decide +kernel
theorem dX5_rollFor_101 : decode cX5_rollFor 101 = .ok (.iload 4, 2) := by decide +kernel
theorem dX5_rollFor_103 : decode cX5_rollFor 103 = .ok (.invokestatic 133, 3) := by decide +kernel
theorem dX5_rollFor_106 : decode cX5_rollFor 106 = .ok (.if_icmp .ge 7, 3) := by decide +kernel
theorem dX5_rollFor_109 : decode cX5_rollFor 109 = .ok (.iconst 1, 1) := by decide +kernel
theorem dX5_rollFor_110 : decode cX5_rollFor 110 = .ok (.goto 4, 3) := by decide +kernel
theorem dX5_rollFor_113 : decode cX5_rollFor 113 = .ok (.iconst 0, 1) := by decide +kernel
theorem dX5_rollFor_114 : decode cX5_rollFor 114 = .ok (.istore 7, 2) := by decide +kernel
theorem dX5_rollFor_116 : decode cX5_rollFor 116 = .ok (.iload 6, 2) := by decide +kernel
theorem dX5_rollFor_118 : decode cX5_rollFor 118 = .ok (.iload_n 3, 1) := by decide +kernel
theorem dX5_rollFor_119 : decode cX5_rollFor 119 = .ok (.if_icmp .gt 14, 3) := by decide +kernel
theorem dX5_rollFor_122 : decode cX5_rollFor 122 = .ok (.iload 6, 2) := by decide +kernel
theorem dX5_rollFor_124 : decode cX5_rollFor 124 = .ok (.iload_n 3, 1) := by decide +kernel
theorem dX5_rollFor_125 : decode cX5_rollFor 125 = .ok (.if_icmp .ne 15, 3) := by decide +kernel
theorem dX5_rollFor_128 : decode cX5_rollFor 128 = .ok (.iload 7, 2) := by decide +kernel
theorem dX5_rollFor_130 : decode cX5_rollFor 130 = .ok (.ifCond .eq 10, 3) := by decide +kernel
theorem dX5_rollFor_133 : decode cX5_rollFor 133 = .ok (.iload 6, 2) := by decide +kernel
theorem dX5_rollFor_135 : decode cX5_rollFor 135 = .ok (.istore_n 3, 1) := by decide +kernel
theorem dX5_rollFor_136 : decode cX5_rollFor 136 = .ok (.iload 5, 2) := by decide +kernel
theorem dX5_rollFor_138 : decode cX5_rollFor 138 = .ok (.istore 4, 2) := by decide +kernel
theorem dX5_rollFor_140 : decode cX5_rollFor 140 = .ok (.iinc 5 1, 3) := by decide +kernel
theorem dX5_rollFor_143 : decode cX5_rollFor 143 = .ok (.goto (-99), 3) := by decide +kernel
theorem dX5_rollFor_146 : decode cX5_rollFor 146 = .ok (.iload_n 2, 1) := by decide +kernel
theorem dX5_rollFor_147 : decode cX5_rollFor 147 = .ok (.ifCond .ne 7, 3) := by decide +kernel
theorem dX5_rollFor_150 : decode cX5_rollFor 150 = .ok (.iload_n 3, 1) := by decide +kernel
theorem dX5_rollFor_151 : decode cX5_rollFor 151 = .ok (.goto 5, 3) := by decide +kernel
theorem dX5_rollFor_154 : decode cX5_rollFor 154 = .ok (.iload 4, 2) := by decide +kernel
theorem dX5_rollFor_156 : decode cX5_rollFor 156 = .ok (.ireturn, 1) := by decide +kernel
set_option maxRecDepth 20000 in
theorem ggX5_mend_X4_hasChild : GoodIn wsX5_mend wsX4_hasChild := goodIn_r _ [7, 8, 87, 88, 89, 90, 91, 92, 93, 94, 95, 96, 97] (by decide +kernel) (by decide +kernel)
set_option maxRecDepth 20000 in
theorem gX5_mend_X4_hasChild : GoodIn wsX5_mend (wsV RX5 87 RX4 yX4_hasChild wsX4_hasChild) := goodIn_app (goodIn_of _ (by decide +kernel)) ggX5_mend_X4_hasChild
set_option maxRecDepth 20000 in
theorem ggX5_mend_X4_take : GoodIn wsX5_mend wsX4_take := goodIn_r _ [12, 13, 8, 14, 15, 16, 17, 18, 19, 20, 21, 22, 23, 24, 25, 26, 27, 28, 29, 30, 31, 32, 87, 88, 89, 90, 91, 92, 93, 94, 95, 96, 97, 98] (by decide +kernel) (by decide +kernel)
set_option maxRecDepth 20000 in
theorem gX5_mend_X4_take : GoodIn wsX5_mend (wsV RX5 58 RX4 yX4_take wsX4_take) := goodIn_app (goodIn_of _ (by decide +kernel)) ggX5_mend_X4_take
set_option maxRecDepth 20000 in
theorem ggX5_mend_X1_set : GoodIn wsX5_mend wsX1_set := goodIn_r _ [36, 28, 98] (by decide +kernel) (by decide +kernel)
set_option maxRecDepth 20000 in
theorem gX5_mend_X1_set : GoodIn wsX5_mend (wsV RX5 138 RX1 yX1_set wsX1_set) := goodIn_app (goodIn_of _ (by decide +kernel)) ggX5_mend_X1_set
set_option maxRecDepth 20000 in
theorem ggX5_mend_X4_wealthInAll : GoodIn wsX5_mend wsX4_wealthInAll := goodIn_r _ [40, 20, 16, 22, 41, 30, 31, 26, 32, 28, 42, 43, 44, 45, 46, 47, 6, 48, 14, 49, 50, 51, 52, 15, 53, 54, 55, 56, 8, 21, 57, 58, 59, 60, 61, 62, 63, 64, 65, 66, 19, 67, 68, 69, 70, 18, 71, 72, 73, 74, 75, 76, 77, 87, 88, 89, 90, 91, 92, 93, 94, 95, 96, 97, 98] (by decide +kernel) (by decide +kernel)
set_option maxRecDepth 20000 in
theorem gX5_mend_X4_wealthInAll : GoodIn wsX5_mend (wsV RX5 157 RX4 yX4_wealthInAll wsX4_wealthInAll) := goodIn_app (goodIn_of _ (by decide +kernel)) ggX5_mend_X4_wealthInAll
theorem dX5_mend_0 : decode cX5_mend 0 = .ok (.aload_n 0, 1) := by decide +kernel
theorem dX5_mend_1 : decode cX5_mend 1 = .ok (.getfield 19, 3) := by decide +kernel
theorem dX5_mend_4 : decode cX5_mend 4 = .ok (.iload_n 1, 1) := by decide +kernel
theorem dX5_mend_5 : decode cX5_mend 5 = .ok (.invokevirtual 87, 3) := by decide +kernel
theorem dX5_mend_8 : decode cX5_mend 8 = .ok (.ifCond .ne 5, 3) := by decide +kernel
theorem dX5_mend_11 : decode cX5_mend 11 = .ok (.iconst (-1), 1) := by decide +kernel
theorem dX5_mend_12 : decode cX5_mend 12 = .ok (.ireturn, 1) := by decide +kernel
theorem dX5_mend_13 : decode cX5_mend 13 = .ok (.aload_n 0, 1) := by decide +kernel
theorem dX5_mend_14 : decode cX5_mend 14 = .ok (.getfield 23, 3) := by decide +kernel
theorem dX5_mend_17 : decode cX5_mend 17 = .ok (.aload_n 0, 1) := by decide +kernel
theorem dX5_mend_18 : decode cX5_mend 18 = .ok (.getfield 19, 3) := by decide +kernel
theorem dX5_mend_21 : decode cX5_mend 21 = .ok (.invokevirtual 58, 3) := by decide +kernel
theorem dX5_mend_24 : decode cX5_mend 24 = .ok (.iconst (-1), 1) := by decide +kernel
theorem dX5_mend_25 : decode cX5_mend 25 = .ok (.istore_n 2, 1) := by decide +kernel
theorem dX5_mend_26 : decode cX5_mend 26 = .ok (.iconst 0, 1) := by decide +kernel
theorem dX5_mend_27 : decode cX5_mend 27 = .ok (.istore_n 3, 1) := by decide +kernel
theorem dX5_mend_28 : decode cX5_mend 28 = .ok (.iconst 0, 1) := by decide +kernel
theorem dX5_mend_29 : decode cX5_mend 29 = .ok (.istore 4, 2) := by decide +kernel
theorem dX5_mend_31 : decode cX5_mend 31 = .ok (.iload 4, 2) := by decide +kernel
theorem dX5_mend_33 : decode cX5_mend 33 = .ok (.aload_n 0, 1) := by decide +kernel
theorem dX5_mend_34 : decode cX5_mend 34 = .ok (.getfield 19, 3) := by decide +kernel
theorem dX5_mend_37 : decode cX5_mend 37 = .ok (.getfield 68, 3) := by decide +kernel
theorem dX5_mend_40 : decode cX5_mend 40 = .ok (.if_icmp .ge 44, 3) := by decide +kernel
theorem dX5_mend_43 : decode cX5_mend 43 = .ok (.aload_n 0, 1) := by decide +kernel
theorem dX5_mend_44 : decode cX5_mend 44 = .ok (.getfield 23, 3) := by decide +kernel
theorem dX5_mend_47 : decode cX5_mend 47 = .ok (.getfield 94, 3) := by decide +kernel
theorem dX5_mend_50 : decode cX5_mend 50 = .ok (.iload_n 1, 1) := by decide +kernel
theorem dX5_mend_51 : decode cX5_mend 51 = .ok (.iload 4, 2) := by decide +kernel
theorem dX5_mend_53 : decode cX5_mend 53 = .ok (.invokevirtual 138, 3) := by decide +kernel
theorem dX5_mend_56 : decode cX5_mend 56 = .ok (.aload_n 0, 1) := by decide +kernel
theorem dX5_mend_57 : decode cX5_mend 57 = .ok (.getfield 23, 3) := by decide +kernel
theorem dX5_mend_60 : decode cX5_mend 60 = .ok (.iload_n 1, 1) := by decide +kernel
theorem dX5_mend_61 : decode cX5_mend 61 = .ok (.invokevirtual 157, 3) := by decide +kernel
theorem dX5_mend_64 : decode cX5_mend 64 = .ok (.istore 5, 2) := by decide +kernel
theorem dX5_mend_66 : decode cX5_mend 66 = .ok (.iload 5, 2) := by decide +kernel
theorem dX5_mend_68 : decode cX5_mend 68 = .ok (.iload_n 2, 1) := by decide +kernel
theorem dX5_mend_69 : decode cX5_mend 69 = .ok (.if_icmp .le 9, 3) := by decide +kernel
theorem dX5_mend_72 : decode cX5_mend 72 = .ok (.iload 5, 2) := by decide +kernel
theorem dX5_mend_74 : decode cX5_mend 74 = .ok (.istore_n 2, 1) := by decide +kernel
theorem dX5_mend_75 : decode cX5_mend 75 = .ok (.iload 4, 2) := by decide +kernel
theorem dX5_mend_77 : decode cX5_mend 77 = .ok (.istore_n 3, 1) := by decide +kernel
theorem dX5_mend_78 : decode cX5_mend 78 = .ok (.iinc 4 1, 3) := by decide +kernel
theorem dX5_mend_81 : decode cX5_mend 81 = .ok (.goto (-50), 3) := by decide +kernel
theorem dX5_mend_84 : decode cX5_mend 84 = .ok (.iload_n 3, 1) := by decide +kernel
theorem dX5_mend_85 : decode cX5_mend 85 = .ok (.ireturn, 1) := by decide +kernel
set_option maxRecDepth 20000 in
theorem ggX5_judge_X4_take : GoodIn wsX5_judge wsX4_take := goodIn_r _ [7, 8, 9, 10, 11, 12, 13, 14, 15, 16, 17, 18, 19, 20, 21, 22, 23, 24, 25, 26, 27, 28, 115, 116, 117, 118, 119, 120, 121, 122, 123, 124, 125, 126] (by decide +kernel) (by decide +kernel)
set_option maxRecDepth 20000 in
theorem gX5_judge_X4_take : GoodIn wsX5_judge (wsV RX5 58 RX4 yX4_take wsX4_take) := goodIn_app (goodIn_of _ (by decide +kernel)) ggX5_judge_X4_take
set_option maxRecDepth 20000 in
theorem ggX5_judge_X4_doTold : GoodIn wsX5_judge wsX4_doTold := goodIn_r _ [32, 13, 33, 34, 35, 6, 36, 10, 37, 38, 39, 40, 9, 41, 42, 43, 44, 45, 46, 47, 48, 49, 50, 51, 52, 53, 8, 54, 55, 56, 57, 11, 58, 59, 60, 61, 12, 62, 63, 64, 65, 16, 17, 66, 26, 27, 22, 28, 24, 67, 68, 69, 70, 71, 72, 73, 74, 15, 75, 76, 77, 78, 79, 80, 81, 82, 83, 84, 85, 86, 87, 88, 89, 90, 14, 91, 92, 93, 94, 95, 96, 97, 98, 99, 100, 101, 18, 102, 103, 104, 105, 115, 116, 117, 118, 119, 120, 121, 122, 123, 124, 125, 126] (by decide +kernel) (by decide +kernel)
set_option maxRecDepth 20000 in
theorem gX5_judge_X4_doTold : GoodIn wsX5_judge (wsV RX5 168 RX4 yX4_doTold wsX4_doTold) := goodIn_app (goodIn_of _ (by decide +kernel)) ggX5_judge_X4_doTold
theorem dX5_judge_0 : decode cX5_judge 0 = .ok (.iload_n 1, 1) := by decide +kernel
theorem dX5_judge_1 : decode cX5_judge 1 = .ok (.iconst 1, 1) := by decide +kernel
theorem dX5_judge_2 : decode cX5_judge 2 = .ok (.if_icmp .lt 12, 3) := by decide +kernel
theorem dX5_judge_5 : decode cX5_judge 5 = .ok (.iload_n 1, 1) := by decide +kernel
theorem dX5_judge_6 : decode cX5_judge 6 = .ok (.iconst 4, 1) := by decide +kernel
theorem dX5_judge_7 : decode cX5_judge 7 = .ok (.if_icmp .gt 7, 3) := by decide +kernel
theorem dX5_judge_10 : decode cX5_judge 10 = .ok (.iload_n 2, 1) := by decide +kernel
theorem dX5_judge_11 : decode cX5_judge 11 = .ok (.ifCond .ge 6, 3) := by decide +kernel
theorem dX5_judge_14 : decode cX5_judge 14 = .ok (.bipush (-2), 2) := by decide +kernel
theorem dX5_judge_16 : decode cX5_judge 16 = .ok (.ireturn, 1) := by decide +kernel
theorem dX5_judge_17 : decode cX5_judge 17 = .ok (.iconst 1, 1) := by decide +kernel
theorem dX5_judge_18 : decode cX5_judge 18 = .ok (.istore_n 3, 1) := by decide +kernel
theorem dX5_judge_19 : decode cX5_judge 19 = .ok (.iconst 1, 1) := by decide +kernel
theorem dX5_judge_20 : decode cX5_judge 20 = .ok (.istore 4, 2) := by decide +kernel
theorem dX5_judge_22 : decode cX5_judge 22 = .ok (.iload 4, 2) := by decide +kernel
theorem dX5_judge_24 : decode cX5_judge 24 = .ok (.iload_n 1, 1) := by decide +kernel
theorem dX5_judge_25 : decode cX5_judge 25 = .ok (.if_icmp .ge 14, 3) := by decide +kernel
theorem dX5_judge_28 : decode cX5_judge 28 = .ok (.iload_n 3, 1) := by decide +kernel
theorem dX5_judge_29 : decode cX5_judge 29 = .ok (.bipush 100, 2) := by decide +kernel
theorem dX5_judge_31 : decode cX5_judge 31 = .ok (.imul, 1) := by decide +kernel
theorem dX5_judge_32 : decode cX5_judge 32 = .ok (.istore_n 3, 1) := by decide +kernel
theorem dX5_judge_33 : decode cX5_judge 33 = .ok (.iinc 4 1, 3) := by decide +kernel
theorem dX5_judge_36 : decode cX5_judge 36 = .ok (.goto (-14), 3) := by decide +kernel
theorem dX5_judge_39 : decode cX5_judge 39 = .ok (.iload_n 2, 1) := by decide +kernel
theorem dX5_judge_40 : decode cX5_judge 40 = .ok (.bipush 100, 2) := by decide +kernel
theorem dX5_judge_42 : decode cX5_judge 42 = .ok (.idiv, 1) := by decide +kernel
theorem dX5_judge_43 : decode cX5_judge 43 = .ok (.iload_n 3, 1) := by decide +kernel
theorem dX5_judge_44 : decode cX5_judge 44 = .ok (.if_icmp .lt 6, 3) := by decide +kernel
theorem dX5_judge_47 : decode cX5_judge 47 = .ok (.bipush (-2), 2) := by decide +kernel
theorem dX5_judge_49 : decode cX5_judge 49 = .ok (.ireturn, 1) := by decide +kernel
theorem dX5_judge_50 : decode cX5_judge 50 = .ok (.aload_n 0, 1) := by decide +kernel
theorem dX5_judge_51 : decode cX5_judge 51 = .ok (.getfield 23, 3) := by decide +kernel
theorem dX5_judge_54 : decode cX5_judge 54 = .ok (.aload_n 0, 1) := by decide +kernel
theorem dX5_judge_55 : decode cX5_judge 55 = .ok (.getfield 19, 3) := by decide +kernel
theorem dX5_judge_58 : decode cX5_judge 58 = .ok (.invokevirtual 58, 3) := by decide +kernel
theorem dX5_judge_61 : decode cX5_judge 61 = .ok (.iconst 0, 1) := by decide +kernel
theorem dX5_judge_62 : decode cX5_judge 62 = .ok (.istore 4, 2) := by decide +kernel
theorem dX5_judge_64 : decode cX5_judge 64 = .ok (.iload 4, 2) := by decide +kernel
theorem dX5_judge_66 : decode cX5_judge 66 = .ok (.iload_n 1, 1) := by decide +kernel
theorem dX5_judge_67 : decode cX5_judge 67 = .ok (.if_icmp .ge 49, 3) := by decide +kernel
theorem dX5_judge_70 : decode cX5_judge 70 = .ok (.iload_n 3, 1) := by decide +kernel
theorem dX5_judge_71 : decode cX5_judge 71 = .ok (.ifCond .le 45, 3) := by decide +kernel
theorem dX5_judge_74 : decode cX5_judge 74 = .ok (.iload_n 2, 1) := by decide +kernel
theorem dX5_judge_75 : decode cX5_judge 75 = .ok (.iload_n 3, 1) := by decide +kernel
theorem dX5_judge_76 : decode cX5_judge 76 = .ok (.idiv, 1) := by decide +kernel
theorem dX5_judge_77 : decode cX5_judge 77 = .ok (.bipush 100, 2) := by decide +kernel
theorem dX5_judge_79 : decode cX5_judge 79 = .ok (.irem, 1) := by decide +kernel
theorem dX5_judge_80 : decode cX5_judge 80 = .ok (.istore 5, 2) := by decide +kernel
theorem dX5_judge_82 : decode cX5_judge 82 = .ok (.aload_n 0, 1) := by decide +kernel
theorem dX5_judge_83 : decode cX5_judge 83 = .ok (.getfield 23, 3) := by decide +kernel
theorem dX5_judge_86 : decode cX5_judge 86 = .ok (.iload 5, 2) := by decide +kernel
theorem dX5_judge_88 : decode cX5_judge 88 = .ok (.bipush 10, 2) := by decide +kernel
theorem dX5_judge_90 : decode cX5_judge 90 = .ok (.idiv, 1) := by decide +kernel
theorem dX5_judge_91 : decode cX5_judge 91 = .ok (.iload 5, 2) := by decide +kernel
theorem dX5_judge_93 : decode cX5_judge 93 = .ok (.bipush 10, 2) := by decide +kernel
theorem dX5_judge_95 : decode cX5_judge 95 = .ok (.irem, 1) := by decide +kernel
theorem dX5_judge_96 : decode cX5_judge 96 = .ok (.invokevirtual 168, 3) := by decide +kernel
theorem dX5_judge_99 : decode cX5_judge 99 = .ok (.ifCond .ne 6, 3) := by decide +kernel
theorem dX5_judge_102 : decode cX5_judge 102 = .ok (.iload 4, 2) := by decide +kernel
theorem dX5_judge_104 : decode cX5_judge 104 = .ok (.ireturn, 1) := by decide +kernel
theorem dX5_judge_105 : decode cX5_judge 105 = .ok (.iload_n 3, 1) := by decide +kernel
theorem dX5_judge_106 : decode cX5_judge 106 = .ok (.bipush 100, 2) := by decide +kernel
theorem dX5_judge_108 : decode cX5_judge 108 = .ok (.idiv, 1) := by decide +kernel
theorem dX5_judge_109 : decode cX5_judge 109 = .ok (.istore_n 3, 1) := by decide +kernel
theorem dX5_judge_110 : decode cX5_judge 110 = .ok (.iinc 4 1, 3) := by decide +kernel
theorem dX5_judge_113 : decode cX5_judge 113 = .ok (.goto (-49), 3) := by decide +kernel
theorem dX5_judge_116 : decode cX5_judge 116 = .ok (.bipush (-9), 2) := by decide +kernel
theorem dX5_judge_118 : decode cX5_judge 118 = .ok (.ireturn, 1) := by decide +kernel
set_option maxRecDepth 20000 in
theorem ggX5_share_X4_hasChild : GoodIn wsX5_share wsX4_hasChild := goodIn_r _ [6, 7, 50, 51, 52, 53, 54, 55, 56, 57, 58, 59, 60] (by decide +kernel) (by decide +kernel)
set_option maxRecDepth 20000 in
theorem gX5_share_X4_hasChild : GoodIn wsX5_share (wsV RX5 87 RX4 yX4_hasChild wsX4_hasChild) := goodIn_app (goodIn_of _ (by decide +kernel)) ggX5_share_X4_hasChild
set_option maxRecDepth 20000 in
theorem ggX5_share_X4_isAlive : GoodIn wsX5_share wsX4_isAlive := goodIn_r _ [11, 12, 13, 3, 4, 5, 6, 7, 14, 15, 16, 50, 51, 52, 53, 54, 55, 56, 57, 58, 59, 60] (by decide +kernel) (by decide +kernel)
set_option maxRecDepth 20000 in
theorem gX5_share_X4_isAlive : GoodIn wsX5_share (wsV RX5 109 RX4 yX4_isAlive wsX4_isAlive) := goodIn_app (goodIn_of _ (by decide +kernel)) ggX5_share_X4_isAlive
set_option maxRecDepth 20000 in
theorem ggX5_share_X5_inLeastTerms : GoodIn wsX5_share wsX5_inLeastTerms := goodIn_r _ [19] (by decide +kernel) (by decide +kernel)
set_option maxRecDepth 20000 in
theorem gX5_share_X5_inLeastTerms : GoodIn wsX5_share (va_wsS RX5 172 yX5_inLeastTerms wsX5_inLeastTerms) := goodIn_app (goodIn_of _ (by decide +kernel)) ggX5_share_X5_inLeastTerms
set_option maxRecDepth 20000 in
theorem ggX5_share_X4_broodOf : GoodIn wsX5_share wsX4_broodOf := goodIn_r _ [23, 7, 24, 25, 9, 10, 5, 11, 12, 13, 3, 4, 6, 14, 15, 16, 26, 27, 28, 29, 30, 31, 32, 33, 50, 51, 52, 53, 54, 55, 56, 57, 58, 59, 60, 61] (by decide +kernel) (by decide +kernel)
set_option maxRecDepth 20000 in
theorem gX5_share_X4_broodOf : GoodIn wsX5_share (wsV RX5 176 RX4 yX4_broodOf wsX4_broodOf) := goodIn_app (goodIn_of _ (by decide +kernel)) ggX5_share_X4_broodOf
set_option maxRecDepth 20000 in
theorem ggX5_share_J6_bitCount_0f7a4 : GoodIn wsX5_share wsJ6_bitCount_0f7a4 := goodIn_r _ [37, 38, 39, 40] (by decide +kernel) (by decide +kernel)
set_option maxRecDepth 20000 in
theorem gX5_share_J6_bitCount_0f7a4 : GoodIn wsX5_share (va_wsS RX5 133 yJ6_bitCount_0f7a4 wsJ6_bitCount_0f7a4) := goodIn_app (goodIn_of _ (by decide +kernel)) ggX5_share_J6_bitCount_0f7a4
theorem dX5_share_0 : decode cX5_share 0 = .ok (.aload_n 0, 1) := by decide +kernel
theorem dX5_share_1 : decode cX5_share 1 = .ok (.getfield 19, 3) := by decide +kernel
theorem dX5_share_4 : decode cX5_share 4 = .ok (.iload_n 1, 1) := by decide +kernel
theorem dX5_share_5 : decode cX5_share 5 = .ok (.invokevirtual 87, 3) := by decide +kernel
theorem dX5_share_8 : decode cX5_share 8 = .ok (.ifCond .ne 5, 3) := by decide +kernel
theorem dX5_share_11 : decode cX5_share 11 = .ok (.iconst (-1), 1) := by decide +kernel
theorem dX5_share_12 : decode cX5_share 12 = .ok (.ireturn, 1) := by decide +kernel
theorem dX5_share_13 : decode cX5_share 13 = .ok (.aload_n 0, 1) := by decide +kernel
theorem dX5_share_14 : decode cX5_share 14 = .ok (.getfield 19, 3) := by decide +kernel
theorem dX5_share_17 : decode cX5_share 17 = .ok (.iload_n 1, 1) := by decide +kernel
theorem dX5_share_18 : decode cX5_share 18 = .ok (.invokevirtual 109, 3) := by decide +kernel
theorem dX5_share_21 : decode cX5_share 21 = .ok (.ifCond .ne 10, 3) := by decide +kernel
theorem dX5_share_24 : decode cX5_share 24 = .ok (.iconst 0, 1) := by decide +kernel
theorem dX5_share_25 : decode cX5_share 25 = .ok (.iconst 1, 1) := by decide +kernel
theorem dX5_share_26 : decode cX5_share 26 = .ok (.iload_n 2, 1) := by decide +kernel
theorem dX5_share_27 : decode cX5_share 27 = .ok (.invokestatic 172, 3) := by decide +kernel
theorem dX5_share_30 : decode cX5_share 30 = .ok (.ireturn, 1) := by decide +kernel
theorem dX5_share_31 : decode cX5_share 31 = .ok (.iconst 1, 1) := by decide +kernel
theorem dX5_share_32 : decode cX5_share 32 = .ok (.aload_n 0, 1) := by decide +kernel
theorem dX5_share_33 : decode cX5_share 33 = .ok (.getfield 19, 3) := by decide +kernel
theorem dX5_share_36 : decode cX5_share 36 = .ok (.iload_n 1, 1) := by decide +kernel
theorem dX5_share_37 : decode cX5_share 37 = .ok (.invokevirtual 176, 3) := by decide +kernel
theorem dX5_share_40 : decode cX5_share 40 = .ok (.invokestatic 133, 3) := by decide +kernel
theorem dX5_share_43 : decode cX5_share 43 = .ok (.iload_n 2, 1) := by decide +kernel
theorem dX5_share_44 : decode cX5_share 44 = .ok (.invokestatic 172, 3) := by decide +kernel
theorem dX5_share_47 : decode cX5_share 47 = .ok (.ireturn, 1) := by decide +kernel
set_option maxRecDepth 20000 in
theorem ggX5_see_X4_hasHouse : GoodIn wsX5_see wsX4_hasHouse := goodIn_r _ [7, 8, 42, 43, 44, 45, 46, 47, 48, 49, 50, 51, 52] (by decide +kernel) (by decide +kernel)
set_option maxRecDepth 20000 in
theorem gX5_see_X4_hasHouse : GoodIn wsX5_see (wsV RX5 112 RX4 yX4_hasHouse wsX4_hasHouse) := goodIn_app (goodIn_of _ (by decide +kernel)) ggX5_see_X4_hasHouse
set_option maxRecDepth 20000 in
theorem ggX5_see_X4_hasChild : GoodIn wsX5_see wsX4_hasChild := goodIn_r _ [12, 13, 42, 43, 44, 45, 46, 47, 48, 49, 50, 51, 52] (by decide +kernel) (by decide +kernel)
set_option maxRecDepth 20000 in
theorem gX5_see_X4_hasChild : GoodIn wsX5_see (wsV RX5 87 RX4 yX4_hasChild wsX4_hasChild) := goodIn_app (goodIn_of _ (by decide +kernel)) ggX5_see_X4_hasChild
set_option maxRecDepth 20000 in
theorem ggX5_see_X5_isIn : GoodIn wsX5_see wsX5_isIn := goodIn_r _ [17] (by decide +kernel) (by decide +kernel)
set_option maxRecDepth 20000 in
theorem gX5_see_X5_isIn : GoodIn wsX5_see (va_wsS RX5 179 yX5_isIn wsX5_isIn) := goodIn_app (goodIn_of _ (by decide +kernel)) ggX5_see_X5_isIn
set_option maxRecDepth 20000 in
theorem ggX5_see_X2_add : GoodIn wsX5_see wsX2_add := goodIn_r _ [22, 23, 24, 25, 26, 27, 28, 29, 30, 31, 32, 53, 54, 55, 56, 57] (by decide +kernel) (by decide +kernel)
set_option maxRecDepth 20000 in
theorem gX5_see_X2_add : GoodIn wsX5_see (wsV RX5 182 RX2 yX2_add wsX2_add) := goodIn_app (goodIn_of _ (by decide +kernel)) ggX5_see_X2_add
theorem dX5_see_0 : decode cX5_see 0 = .ok (.aload_n 0, 1) := by decide +kernel
theorem dX5_see_1 : decode cX5_see 1 = .ok (.getfield 19, 3) := by decide +kernel
theorem dX5_see_4 : decode cX5_see 4 = .ok (.iload_n 1, 1) := by decide +kernel
theorem dX5_see_5 : decode cX5_see 5 = .ok (.invokevirtual 112, 3) := by decide +kernel
theorem dX5_see_8 : decode cX5_see 8 = .ok (.ifCond .eq 14, 3) := by decide +kernel
theorem dX5_see_11 : decode cX5_see 11 = .ok (.aload_n 0, 1) := by decide +kernel
theorem dX5_see_12 : decode cX5_see 12 = .ok (.getfield 19, 3) := by decide +kernel
theorem dX5_see_15 : decode cX5_see 15 = .ok (.iload_n 2, 1) := by decide +kernel
theorem dX5_see_16 : decode cX5_see 16 = .ok (.invokevirtual 87, 3) := by decide +kernel
theorem dX5_see_19 : decode cX5_see 19 = .ok (.ifCond .ne 5, 3) := by decide +kernel
theorem dX5_see_22 : decode cX5_see 22 = .ok (.iconst (-1), 1) := by decide +kernel
theorem dX5_see_23 : decode cX5_see 23 = .ok (.ireturn, 1) := by decide +kernel
theorem dX5_see_24 : decode cX5_see 24 = .ok (.iload_n 3, 1) := by decide +kernel
theorem dX5_see_25 : decode cX5_see 25 = .ok (.ifCond .lt 24, 3) := by decide +kernel
theorem dX5_see_28 : decode cX5_see 28 = .ok (.iload_n 3, 1) := by decide +kernel
theorem dX5_see_29 : decode cX5_see 29 = .ok (.iconst 1, 1) := by decide +kernel
theorem dX5_see_30 : decode cX5_see 30 = .ok (.aload_n 0, 1) := by decide +kernel
theorem dX5_see_31 : decode cX5_see 31 = .ok (.getfield 19, 3) := by decide +kernel
theorem dX5_see_34 : decode cX5_see 34 = .ok (.getfield 71, 3) := by decide +kernel
theorem dX5_see_37 : decode cX5_see 37 = .ok (.ishl, 1) := by decide +kernel
theorem dX5_see_38 : decode cX5_see 38 = .ok (.if_icmp .ge 11, 3) := by decide +kernel
theorem dX5_see_41 : decode cX5_see 41 = .ok (.iload_n 3, 1) := by decide +kernel
theorem dX5_see_42 : decode cX5_see 42 = .ok (.iload_n 2, 1) := by decide +kernel
theorem dX5_see_43 : decode cX5_see 43 = .ok (.invokestatic 179, 3) := by decide +kernel
theorem dX5_see_46 : decode cX5_see 46 = .ok (.ifCond .ne 6, 3) := by decide +kernel
theorem dX5_see_49 : decode cX5_see 49 = .ok (.bipush (-2), 2) := by decide +kernel
theorem dX5_see_51 : decode cX5_see 51 = .ok (.ireturn, 1) := by decide +kernel
theorem dX5_see_52 : decode cX5_see 52 = .ok (.aload_n 0, 1) := by decide +kernel
theorem dX5_see_53 : decode cX5_see 53 = .ok (.getfield 42, 3) := by decide +kernel
theorem dX5_see_56 : decode cX5_see 56 = .ok (.getfield 86, 3) := by decide +kernel
theorem dX5_see_59 : decode cX5_see 59 = .ok (.bipush 6, 2) := by decide +kernel
theorem dX5_see_61 : decode cX5_see 61 = .ok (.if_icmp .lt 6, 3) := by decide +kernel
theorem dX5_see_64 : decode cX5_see 64 = .ok (.bipush (-4), 2) := by decide +kernel
theorem dX5_see_66 : decode cX5_see 66 = .ok (.ireturn, 1) := by decide +kernel
theorem dX5_see_67 : decode cX5_see 67 = .ok (.aload_n 0, 1) := by decide +kernel
theorem dX5_see_68 : decode cX5_see 68 = .ok (.getfield 42, 3) := by decide +kernel
theorem dX5_see_71 : decode cX5_see 71 = .ok (.iload_n 1, 1) := by decide +kernel
theorem dX5_see_72 : decode cX5_see 72 = .ok (.iload_n 2, 1) := by decide +kernel
theorem dX5_see_73 : decode cX5_see 73 = .ok (.iload_n 3, 1) := by decide +kernel
theorem dX5_see_74 : decode cX5_see 74 = .ok (.invokevirtual 182, 3) := by decide +kernel
theorem dX5_see_77 : decode cX5_see 77 = .ok (.ireturn, 1) := by decide +kernel
theorem dX5_unsee_0 : decode cX5_unsee 0 = .ok (.aload_n 0, 1) := by decide +kernel
theorem dX5_unsee_1 : decode cX5_unsee 1 = .ok (.getfield 42, 3) := by decide +kernel
theorem dX5_unsee_4 : decode cX5_unsee 4 = .ok (.getfield 86, 3) := by decide +kernel
theorem dX5_unsee_7 : decode cX5_unsee 7 = .ok (.istore_n 1, 1) := by decide +kernel
theorem dX5_unsee_8 : decode cX5_unsee 8 = .ok (.aload_n 0, 1) := by decide +kernel
theorem dX5_unsee_9 : decode cX5_unsee 9 = .ok (.getfield 42, 3) := by decide +kernel
theorem dX5_unsee_12 : decode cX5_unsee 12 = .ok (.iconst 0, 1) := by decide +kernel
theorem dX5_unsee_13 : decode cX5_unsee 13 = .ok (.putfield 86, 3) := by decide +kernel
theorem dX5_unsee_16 : decode cX5_unsee 16 = .ok (.iload_n 1, 1) := by decide +kernel
theorem dX5_unsee_17 : decode cX5_unsee 17 = .ok (.ireturn, 1) := by decide +kernel
set_option maxRecDepth 20000 in
theorem ggX5_sides_X2_countRight : GoodIn wsX5_sides wsX2_countRight := goodIn_r _ [7, 8, 9, 10, 11, 12, 13, 6, 14, 15, 16, 17, 18, 19, 20, 21, 22, 23, 24, 25, 26, 27, 28, 29, 30, 31, 32, 33, 34, 35, 36, 37, 38, 39, 40, 41, 42, 43, 44, 45, 46, 47, 48, 49, 50, 51, 52, 53, 54, 55, 56, 57, 76, 77, 78, 79, 80, 81, 82, 83, 84, 85, 86, 87, 88, 89, 90, 91] (by decide +kernel) (by decide +kernel)
set_option maxRecDepth 20000 in
theorem gX5_sides_X2_countRight : GoodIn wsX5_sides (wsV RX5 184 RX2 yX2_countRight wsX2_countRight) := goodIn_app (goodIn_of _ (by decide +kernel)) ggX5_sides_X2_countRight
set_option maxRecDepth 20000 in
theorem ggX5_sides_X2_alwaysOn : GoodIn wsX5_sides wsX2_alwaysOn := goodIn_r _ [61, 8, 9, 10, 11, 12, 13, 6, 14, 15, 16, 17, 18, 19, 20, 21, 22, 23, 24, 25, 26, 27, 28, 29, 30, 31, 32, 33, 34, 35, 36, 37, 38, 39, 40, 41, 42, 43, 44, 45, 46, 47, 48, 49, 50, 51, 52, 53, 54, 55, 56, 57, 76, 77, 78, 79, 80, 81, 82, 83, 84, 85, 86, 87, 88, 89, 90, 91] (by decide +kernel) (by decide +kernel)
set_option maxRecDepth 20000 in
theorem gX5_sides_X2_alwaysOn : GoodIn wsX5_sides (wsV RX5 187 RX2 yX2_alwaysOn wsX2_alwaysOn) := goodIn_app (goodIn_of _ (by decide +kernel)) ggX5_sides_X2_alwaysOn
set_option maxRecDepth 20000 in
theorem ggX5_sides_X2_leastWrong : GoodIn wsX5_sides wsX2_leastWrong := goodIn_r _ [65, 11, 12, 13, 6, 14, 15, 16, 17, 18, 19, 20, 21, 22, 23, 24, 25, 26, 27, 28, 29, 30, 31, 32, 33, 34, 35, 36, 37, 38, 39, 8, 9, 10, 40, 41, 42, 43, 44, 45, 46, 47, 48, 49, 50, 51, 52, 53, 54, 55, 56, 57, 76, 77, 78, 79, 80, 81, 82, 83, 84, 85, 86, 87, 88, 89, 90, 91] (by decide +kernel) (by decide +kernel)
set_option maxRecDepth 20000 in
theorem gX5_sides_X2_leastWrong : GoodIn wsX5_sides (wsV RX5 191 RX2 yX2_leastWrong wsX2_leastWrong) := goodIn_app (goodIn_of _ (by decide +kernel)) ggX5_sides_X2_leastWrong
set_option maxRecDepth 20000 in
theorem ggX5_sides_X2_countWrong : GoodIn wsX5_sides wsX2_countWrong := goodIn_r _ [14, 15, 16, 17, 18, 19, 20, 21, 6, 22, 23, 24, 25, 26, 27, 28, 29, 30, 31, 32, 33, 34, 35, 36, 37, 38, 39, 8, 9, 10, 40, 41, 42, 43, 44, 45, 46, 47, 48, 49, 50, 51, 52, 53, 54, 55, 56, 57, 87, 88, 89, 90, 76, 77, 78, 79, 80, 81, 82, 83, 84, 85, 86, 91] (by decide +kernel) (by decide +kernel)
set_option maxRecDepth 20000 in
theorem gX5_sides_X2_countWrong : GoodIn wsX5_sides (wsV RX5 194 RX2 yX2_countWrong wsX2_countWrong) := goodIn_app (goodIn_of _ (by decide +kernel)) ggX5_sides_X2_countWrong
theorem dX5_sides_0 : decode cX5_sides 0 = .ok (.iload_n 1, 1) := by decide +kernel
theorem dX5_sides_1 : decode cX5_sides 1 = .ok (.tableswitch 108 0 4 #[35, 47, 60, 73, 85], 35) := by decide +kernel
theorem dX5_sides_36 : decode cX5_sides 36 = .ok (.aload_n 0, 1) := by decide +kernel
theorem dX5_sides_37 : decode cX5_sides 37 = .ok (.getfield 42, 3) := by decide +kernel
theorem dX5_sides_40 : decode cX5_sides 40 = .ok (.aload_n 0, 1) := by decide +kernel
theorem dX5_sides_41 : decode cX5_sides 41 = .ok (.getfield 19, 3) := by decide +kernel
theorem dX5_sides_44 : decode cX5_sides 44 = .ok (.invokevirtual 184, 3) := by decide +kernel
theorem dX5_sides_47 : decode cX5_sides 47 = .ok (.ireturn, 1) := by decide +kernel
theorem dX5_sides_48 : decode cX5_sides 48 = .ok (.aload_n 0, 1) := by decide +kernel
theorem dX5_sides_49 : decode cX5_sides 49 = .ok (.getfield 42, 3) := by decide +kernel
theorem dX5_sides_52 : decode cX5_sides 52 = .ok (.iconst 1, 1) := by decide +kernel
theorem dX5_sides_53 : decode cX5_sides 53 = .ok (.aload_n 0, 1) := by decide +kernel
theorem dX5_sides_54 : decode cX5_sides 54 = .ok (.getfield 19, 3) := by decide +kernel
theorem dX5_sides_57 : decode cX5_sides 57 = .ok (.invokevirtual 187, 3) := by decide +kernel
theorem dX5_sides_60 : decode cX5_sides 60 = .ok (.ireturn, 1) := by decide +kernel
theorem dX5_sides_61 : decode cX5_sides 61 = .ok (.aload_n 0, 1) := by decide +kernel
theorem dX5_sides_62 : decode cX5_sides 62 = .ok (.getfield 42, 3) := by decide +kernel
theorem dX5_sides_65 : decode cX5_sides 65 = .ok (.iconst 0, 1) := by decide +kernel
theorem dX5_sides_66 : decode cX5_sides 66 = .ok (.aload_n 0, 1) := by decide +kernel
theorem dX5_sides_67 : decode cX5_sides 67 = .ok (.getfield 19, 3) := by decide +kernel
theorem dX5_sides_70 : decode cX5_sides 70 = .ok (.invokevirtual 187, 3) := by decide +kernel
theorem dX5_sides_73 : decode cX5_sides 73 = .ok (.ireturn, 1) := by decide +kernel
theorem dX5_sides_74 : decode cX5_sides 74 = .ok (.aload_n 0, 1) := by decide +kernel
theorem dX5_sides_75 : decode cX5_sides 75 = .ok (.getfield 42, 3) := by decide +kernel
theorem dX5_sides_78 : decode cX5_sides 78 = .ok (.aload_n 0, 1) := by decide +kernel
theorem dX5_sides_79 : decode cX5_sides 79 = .ok (.getfield 19, 3) := by decide +kernel
theorem dX5_sides_82 : decode cX5_sides 82 = .ok (.invokevirtual 191, 3) := by decide +kernel
theorem dX5_sides_85 : decode cX5_sides 85 = .ok (.ireturn, 1) := by decide +kernel
theorem dX5_sides_86 : decode cX5_sides 86 = .ok (.aload_n 0, 1) := by decide +kernel
theorem dX5_sides_87 : decode cX5_sides 87 = .ok (.getfield 42, 3) := by decide +kernel
theorem dX5_sides_90 : decode cX5_sides 90 = .ok (.aload_n 0, 1) := by decide +kernel
theorem dX5_sides_91 : decode cX5_sides 91 = .ok (.getfield 19, 3) := by decide +kernel
theorem dX5_sides_94 : decode cX5_sides 94 = .ok (.aload_n 0, 1) := by decide +kernel
theorem dX5_sides_95 : decode cX5_sides 95 = .ok (.getfield 42, 3) := by decide +kernel
theorem dX5_sides_98 : decode cX5_sides 98 = .ok (.aload_n 0, 1) := by decide +kernel
theorem dX5_sides_99 : decode cX5_sides 99 = .ok (.getfield 19, 3) := by decide +kernel
theorem dX5_sides_102 : decode cX5_sides 102 = .ok (.invokevirtual 191, 3) := by decide +kernel
theorem dX5_sides_105 : decode cX5_sides 105 = .ok (.invokevirtual 194, 3) := by decide +kernel
theorem dX5_sides_108 : decode cX5_sides 108 = .ok (.ireturn, 1) := by decide +kernel
theorem dX5_sides_109 : decode cX5_sides 109 = .ok (.bipush (-2), 2) := by decide +kernel
theorem dX5_sides_111 : decode cX5_sides 111 = .ok (.ireturn, 1) := by decide +kernel
set_option maxRecDepth 20000 in
theorem ggX5_rests_X4_hasChild : GoodIn wsX5_rests wsX4_hasChild := goodIn_r _ [6, 7, 76, 77, 78, 79, 80, 81, 82, 83, 84, 85, 86] (by decide +kernel) (by decide +kernel)
set_option maxRecDepth 20000 in
theorem gX5_rests_X4_hasChild : GoodIn wsX5_rests (wsV RX5 87 RX4 yX4_hasChild wsX4_hasChild) := goodIn_app (goodIn_of _ (by decide +kernel)) ggX5_rests_X4_hasChild
set_option maxRecDepth 20000 in
theorem ggX5_rests_X4_isAlive : GoodIn wsX5_rests wsX4_isAlive := goodIn_r _ [11, 12, 13, 3, 4, 5, 6, 7, 14, 15, 16, 76, 77, 78, 79, 80, 81, 82, 83, 84, 85, 86] (by decide +kernel) (by decide +kernel)
set_option maxRecDepth 20000 in
theorem gX5_rests_X4_isAlive : GoodIn wsX5_rests (wsV RX5 109 RX4 yX4_isAlive wsX4_isAlive) := goodIn_app (goodIn_of _ (by decide +kernel)) ggX5_rests_X4_isAlive
set_option maxRecDepth 20000 in
theorem ggX5_rests_X1_get : GoodIn wsX5_rests wsX1_get := goodIn_r _ [21, 22, 87] (by decide +kernel) (by decide +kernel)
set_option maxRecDepth 20000 in
theorem gX5_rests_X1_get : GoodIn wsX5_rests (wsV RX5 98 RX1 yX1_get wsX1_get) := goodIn_app (goodIn_of _ (by decide +kernel)) ggX5_rests_X1_get
set_option maxRecDepth 20000 in
theorem ggX5_rests_X5_bit : GoodIn wsX5_rests wsX5_bit := goodIn_r _ [25] (by decide +kernel) (by decide +kernel)
set_option maxRecDepth 20000 in
theorem gX5_rests_X5_bit : GoodIn wsX5_rests (va_wsS RX5 198 yX5_bit wsX5_bit) := goodIn_app (goodIn_of _ (by decide +kernel)) ggX5_rests_X5_bit
set_option maxRecDepth 20000 in
theorem ggX5_rests_X4_isContent : GoodIn wsX5_rests wsX4_isContent := goodIn_r _ [29, 30, 31, 32, 5, 33, 34, 12, 14, 15, 16, 35, 18, 19, 20, 21, 22, 36, 37, 38, 39, 40, 41, 42, 43, 44, 7, 45, 24, 25, 46, 47, 48, 49, 50, 51, 52, 53, 54, 55, 56, 57, 58, 59, 60, 61, 62, 63, 64, 65, 66, 76, 77, 78, 79, 80, 81, 82, 83, 84, 85, 86, 87] (by decide +kernel) (by decide +kernel)
set_option maxRecDepth 20000 in
theorem gX5_rests_X4_isContent : GoodIn wsX5_rests (wsV RX5 201 RX4 yX4_isContent wsX4_isContent) := goodIn_app (goodIn_of _ (by decide +kernel)) ggX5_rests_X4_isContent
theorem dX5_rests_0 : decode cX5_rests 0 = .ok (.aload_n 0, 1) := by decide +kernel
theorem dX5_rests_1 : decode cX5_rests 1 = .ok (.getfield 19, 3) := by decide +kernel
theorem dX5_rests_4 : decode cX5_rests 4 = .ok (.iload_n 1, 1) := by decide +kernel
theorem dX5_rests_5 : decode cX5_rests 5 = .ok (.invokevirtual 87, 3) := by decide +kernel
theorem dX5_rests_8 : decode cX5_rests 8 = .ok (.ifCond .eq 14, 3) := by decide +kernel
theorem dX5_rests_11 : decode cX5_rests 11 = .ok (.aload_n 0, 1) := by decide +kernel
theorem dX5_rests_12 : decode cX5_rests 12 = .ok (.getfield 19, 3) := by decide +kernel
theorem dX5_rests_15 : decode cX5_rests 15 = .ok (.iload_n 2, 1) := by decide +kernel
theorem dX5_rests_16 : decode cX5_rests 16 = .ok (.invokevirtual 87, 3) := by decide +kernel
theorem dX5_rests_19 : decode cX5_rests 19 = .ok (.ifCond .ne 5, 3) := by decide +kernel
theorem dX5_rests_22 : decode cX5_rests 22 = .ok (.iconst (-1), 1) := by decide +kernel
theorem dX5_rests_23 : decode cX5_rests 23 = .ok (.ireturn, 1) := by decide +kernel
theorem dX5_rests_24 : decode cX5_rests 24 = .ok (.iload_n 1, 1) := by decide +kernel
theorem dX5_rests_25 : decode cX5_rests 25 = .ok (.iload_n 2, 1) := by decide +kernel
theorem dX5_rests_26 : decode cX5_rests 26 = .ok (.if_icmp .eq 12, 3) := by decide +kernel
theorem dX5_rests_29 : decode cX5_rests 29 = .ok (.iload_n 3, 1) := by decide +kernel
theorem dX5_rests_30 : decode cX5_rests 30 = .ok (.ifCond .lt 8, 3) := by decide +kernel
theorem dX5_rests_33 : decode cX5_rests 33 = .ok (.iload_n 3, 1) := by decide +kernel
theorem dX5_rests_34 : decode cX5_rests 34 = .ok (.iconst 1, 1) := by decide +kernel
theorem dX5_rests_35 : decode cX5_rests 35 = .ok (.if_icmp .le 6, 3) := by decide +kernel
theorem dX5_rests_38 : decode cX5_rests 38 = .ok (.bipush (-2), 2) := by decide +kernel
theorem dX5_rests_40 : decode cX5_rests 40 = .ok (.ireturn, 1) := by decide +kernel
theorem dX5_rests_41 : decode cX5_rests 41 = .ok (.aload_n 0, 1) := by decide +kernel
theorem dX5_rests_42 : decode cX5_rests 42 = .ok (.getfield 19, 3) := by decide +kernel
theorem dX5_rests_45 : decode cX5_rests 45 = .ok (.iload_n 1, 1) := by decide +kernel
theorem dX5_rests_46 : decode cX5_rests 46 = .ok (.invokevirtual 109, 3) := by decide +kernel
theorem dX5_rests_49 : decode cX5_rests 49 = .ok (.ifCond .eq 14, 3) := by decide +kernel
theorem dX5_rests_52 : decode cX5_rests 52 = .ok (.aload_n 0, 1) := by decide +kernel
theorem dX5_rests_53 : decode cX5_rests 53 = .ok (.getfield 19, 3) := by decide +kernel
theorem dX5_rests_56 : decode cX5_rests 56 = .ok (.iload_n 2, 1) := by decide +kernel
theorem dX5_rests_57 : decode cX5_rests 57 = .ok (.invokevirtual 109, 3) := by decide +kernel
theorem dX5_rests_60 : decode cX5_rests 60 = .ok (.ifCond .ne 6, 3) := by decide +kernel
theorem dX5_rests_63 : decode cX5_rests 63 = .ok (.bipush (-3), 2) := by decide +kernel
theorem dX5_rests_65 : decode cX5_rests 65 = .ok (.ireturn, 1) := by decide +kernel
theorem dX5_rests_66 : decode cX5_rests 66 = .ok (.aload_n 0, 1) := by decide +kernel
theorem dX5_rests_67 : decode cX5_rests 67 = .ok (.getfield 19, 3) := by decide +kernel
theorem dX5_rests_70 : decode cX5_rests 70 = .ok (.getfield 94, 3) := by decide +kernel
theorem dX5_rests_73 : decode cX5_rests 73 = .ok (.iload_n 1, 1) := by decide +kernel
theorem dX5_rests_74 : decode cX5_rests 74 = .ok (.invokevirtual 98, 3) := by decide +kernel
theorem dX5_rests_77 : decode cX5_rests 77 = .ok (.aload_n 0, 1) := by decide +kernel
theorem dX5_rests_78 : decode cX5_rests 78 = .ok (.getfield 19, 3) := by decide +kernel
theorem dX5_rests_81 : decode cX5_rests 81 = .ok (.getfield 94, 3) := by decide +kernel
theorem dX5_rests_84 : decode cX5_rests 84 = .ok (.iload_n 2, 1) := by decide +kernel
theorem dX5_rests_85 : decode cX5_rests 85 = .ok (.invokevirtual 98, 3) := by decide +kernel
theorem dX5_rests_88 : decode cX5_rests 88 = .ok (.if_icmp .eq 6, 3) := by decide +kernel
theorem dX5_rests_91 : decode cX5_rests 91 = .ok (.bipush (-3), 2) := by decide +kernel
theorem dX5_rests_93 : decode cX5_rests 93 = .ok (.ireturn, 1) := by decide +kernel
theorem dX5_rests_94 : decode cX5_rests 94 = .ok (.iconst 0, 1) := by decide +kernel
theorem dX5_rests_95 : decode cX5_rests 95 = .ok (.istore 4, 2) := by decide +kernel
theorem dX5_rests_97 : decode cX5_rests 97 = .ok (.bipush (-9), 2) := by decide +kernel
theorem dX5_rests_99 : decode cX5_rests 99 = .ok (.istore 5, 2) := by decide +kernel
theorem dX5_rests_101 : decode cX5_rests 101 = .ok (.iconst 0, 1) := by decide +kernel
theorem dX5_rests_102 : decode cX5_rests 102 = .ok (.istore 6, 2) := by decide +kernel
theorem dX5_rests_104 : decode cX5_rests 104 = .ok (.iload 6, 2) := by decide +kernel
theorem dX5_rests_106 : decode cX5_rests 106 = .ok (.iconst 4, 1) := by decide +kernel
theorem dX5_rests_107 : decode cX5_rests 107 = .ok (.if_icmp .ge 97, 3) := by decide +kernel
theorem dX5_rests_110 : decode cX5_rests 110 = .ok (.iload 6, 2) := by decide +kernel
theorem dX5_rests_112 : decode cX5_rests 112 = .ok (.iconst 2, 1) := by decide +kernel
theorem dX5_rests_113 : decode cX5_rests 113 = .ok (.idiv, 1) := by decide +kernel
theorem dX5_rests_114 : decode cX5_rests 114 = .ok (.istore 7, 2) := by decide +kernel
theorem dX5_rests_116 : decode cX5_rests 116 = .ok (.iload 6, 2) := by decide +kernel
theorem dX5_rests_118 : decode cX5_rests 118 = .ok (.iconst 2, 1) := by decide +kernel
theorem dX5_rests_119 : decode cX5_rests 119 = .ok (.irem, 1) := by decide +kernel
theorem dX5_rests_120 : decode cX5_rests 120 = .ok (.istore 8, 2) := by decide +kernel
theorem dX5_rests_122 : decode cX5_rests 122 = .ok (.iload 7, 2) := by decide +kernel
theorem dX5_rests_124 : decode cX5_rests 124 = .ok (.ifCond .ne 10, 3) := by decide +kernel
theorem dX5_rests_127 : decode cX5_rests 127 = .ok (.iload_n 1, 1) := by decide +kernel
theorem dX5_rests_128 : decode cX5_rests 128 = .ok (.invokestatic 198, 3) := by decide +kernel
theorem dX5_rests_131 : decode cX5_rests 131 = .ok (.goto 4, 3) := by decide +kernel
theorem dX5_rests_134 : decode cX5_rests 134 = .ok (.iconst 0, 1) := by decide +kernel
theorem dX5_rests_135 : decode cX5_rests 135 = .ok (.iload 8, 2) := by decide +kernel
theorem dX5_rests_137 : decode cX5_rests 137 = .ok (.ifCond .ne 10, 3) := by decide +kernel
theorem dX5_rests_140 : decode cX5_rests 140 = .ok (.iload_n 2, 1) := by decide +kernel
theorem dX5_rests_141 : decode cX5_rests 141 = .ok (.invokestatic 198, 3) := by decide +kernel
theorem dX5_rests_144 : decode cX5_rests 144 = .ok (.goto 4, 3) := by decide +kernel
theorem dX5_rests_147 : decode cX5_rests 147 = .ok (.iconst 0, 1) := by decide +kernel
theorem dX5_rests_148 : decode cX5_rests 148 = .ok (.ior, 1) := by decide +kernel
theorem dX5_rests_149 : decode cX5_rests 149 = .ok (.istore 9, 2) := by decide +kernel
theorem dX5_rests_151 : decode cX5_rests 151 = .ok (.aload_n 0, 1) := by decide +kernel
theorem dX5_rests_152 : decode cX5_rests 152 = .ok (.getfield 19, 3) := by decide +kernel
theorem dX5_rests_155 : decode cX5_rests 155 = .ok (.iload_n 1, 1) := by decide +kernel
theorem dX5_rests_156 : decode cX5_rests 156 = .ok (.iload 9, 2) := by decide +kernel
theorem dX5_rests_158 : decode cX5_rests 158 = .ok (.invokevirtual 201, 3) := by decide +kernel
theorem dX5_rests_161 : decode cX5_rests 161 = .ok (.ifCond .eq 37, 3) := by decide +kernel
theorem dX5_rests_164 : decode cX5_rests 164 = .ok (.aload_n 0, 1) := by decide +kernel
theorem dX5_rests_165 : decode cX5_rests 165 = .ok (.getfield 19, 3) := by decide +kernel
theorem dX5_rests_168 : decode cX5_rests 168 = .ok (.iload_n 2, 1) := by decide +kernel
theorem dX5_rests_169 : decode cX5_rests 169 = .ok (.iload 9, 2) := by decide +kernel
theorem dX5_rests_171 : decode cX5_rests 171 = .ok (.invokevirtual 201, 3) := by decide +kernel
theorem dX5_rests_174 : decode cX5_rests 174 = .ok (.ifCond .ne 6, 3) := by decide +kernel
theorem dX5_rests_177 : decode cX5_rests 177 = .ok (.goto 21, 3) := by decide +kernel
theorem dX5_rests_180 : decode cX5_rests 180 = .ok (.iload 4, 2) := by decide +kernel
theorem dX5_rests_182 : decode cX5_rests 182 = .ok (.ifCond .ne 13, 3) := by decide +kernel
theorem dX5_rests_185 : decode cX5_rests 185 = .ok (.bipush 10, 2) := by decide +kernel
theorem dX5_rests_187 : decode cX5_rests 187 = .ok (.iload 7, 2) := by decide +kernel
theorem dX5_rests_189 : decode cX5_rests 189 = .ok (.imul, 1) := by decide +kernel
theorem dX5_rests_190 : decode cX5_rests 190 = .ok (.iload 8, 2) := by decide +kernel
theorem dX5_rests_192 : decode cX5_rests 192 = .ok (.iadd, 1) := by decide +kernel
theorem dX5_rests_193 : decode cX5_rests 193 = .ok (.istore 5, 2) := by decide +kernel
theorem dX5_rests_195 : decode cX5_rests 195 = .ok (.iinc 4 1, 3) := by decide +kernel
theorem dX5_rests_198 : decode cX5_rests 198 = .ok (.iinc 6 1, 3) := by decide +kernel
theorem dX5_rests_201 : decode cX5_rests 201 = .ok (.goto (-97), 3) := by decide +kernel
theorem dX5_rests_204 : decode cX5_rests 204 = .ok (.iload_n 3, 1) := by decide +kernel
theorem dX5_rests_205 : decode cX5_rests 205 = .ok (.ifCond .ne 8, 3) := by decide +kernel
theorem dX5_rests_208 : decode cX5_rests 208 = .ok (.iload 4, 2) := by decide +kernel
theorem dX5_rests_210 : decode cX5_rests 210 = .ok (.goto 5, 3) := by decide +kernel
theorem dX5_rests_213 : decode cX5_rests 213 = .ok (.iload 5, 2) := by decide +kernel
theorem dX5_rests_215 : decode cX5_rests 215 = .ok (.ireturn, 1) := by decide +kernel
set_option maxRecDepth 20000 in
theorem ggX5_odds_X4_hasChild : GoodIn wsX5_odds wsX4_hasChild := goodIn_r _ [6, 7, 78, 79, 80, 81, 82, 83, 84, 85, 86, 87, 88] (by decide +kernel) (by decide +kernel)
set_option maxRecDepth 20000 in
theorem gX5_odds_X4_hasChild : GoodIn wsX5_odds (wsV RX5 87 RX4 yX4_hasChild wsX4_hasChild) := goodIn_app (goodIn_of _ (by decide +kernel)) ggX5_odds_X4_hasChild
set_option maxRecDepth 20000 in
theorem ggX5_odds_X4_isAlive : GoodIn wsX5_odds wsX4_isAlive := goodIn_r _ [11, 12, 13, 3, 4, 5, 6, 7, 14, 15, 16, 78, 79, 80, 81, 82, 83, 84, 85, 86, 87, 88] (by decide +kernel) (by decide +kernel)
set_option maxRecDepth 20000 in
theorem gX5_odds_X4_isAlive : GoodIn wsX5_odds (wsV RX5 109 RX4 yX4_isAlive wsX4_isAlive) := goodIn_app (goodIn_of _ (by decide +kernel)) ggX5_odds_X4_isAlive
set_option maxRecDepth 20000 in
theorem ggX5_odds_X5_inLeastTerms : GoodIn wsX5_odds wsX5_inLeastTerms := goodIn_r _ [19] (by decide +kernel) (by decide +kernel)
set_option maxRecDepth 20000 in
theorem gX5_odds_X5_inLeastTerms : GoodIn wsX5_odds (va_wsS RX5 172 yX5_inLeastTerms wsX5_inLeastTerms) := goodIn_app (goodIn_of _ (by decide +kernel)) ggX5_odds_X5_inLeastTerms
set_option maxRecDepth 20000 in
theorem ggX5_odds_X4_broodOf : GoodIn wsX5_odds wsX4_broodOf := goodIn_r _ [23, 7, 24, 25, 9, 10, 5, 11, 12, 13, 3, 4, 6, 14, 15, 16, 26, 27, 28, 29, 30, 31, 32, 33, 78, 79, 80, 81, 82, 83, 84, 85, 86, 87, 88, 89] (by decide +kernel) (by decide +kernel)
set_option maxRecDepth 20000 in
theorem gX5_odds_X4_broodOf : GoodIn wsX5_odds (wsV RX5 176 RX4 yX4_broodOf wsX4_broodOf) := goodIn_app (goodIn_of _ (by decide +kernel)) ggX5_odds_X4_broodOf
set_option maxRecDepth 20000 in
theorem ggX5_odds_J6_bitCount_0f7a4 : GoodIn wsX5_odds wsJ6_bitCount_0f7a4 := goodIn_r _ [37, 38, 39, 40] (by decide +kernel) (by decide +kernel)
set_option maxRecDepth 20000 in
theorem gX5_odds_J6_bitCount_0f7a4 : GoodIn wsX5_odds (va_wsS RX5 133 yJ6_bitCount_0f7a4 wsJ6_bitCount_0f7a4) := goodIn_app (goodIn_of _ (by decide +kernel)) ggX5_odds_J6_bitCount_0f7a4
set_option maxRecDepth 20000 in
theorem ggX5_odds_X5_power : GoodIn wsX5_odds wsX5_power := goodIn_r _ [43] (by decide +kernel) (by decide +kernel)
set_option maxRecDepth 20000 in
theorem gX5_odds_X5_power : GoodIn wsX5_odds (va_wsS RX5 204 yX5_power wsX5_power) := goodIn_app (goodIn_of _ (by decide +kernel)) ggX5_odds_X5_power
set_option maxRecDepth 20000 in
theorem ggX5_odds_X4_casesAsHeir : GoodIn wsX5_odds wsX4_casesAsHeir := goodIn_r _ [47, 24, 26, 27, 28, 29, 30, 31, 48, 21, 22, 5, 23, 7, 25, 9, 10, 11, 12, 13, 3, 4, 6, 14, 15, 16, 32, 33, 49, 35, 36, 37, 38, 39, 40, 50, 51, 52, 53, 54, 55, 56, 57, 58, 59, 60, 61, 62, 63, 64, 65, 66, 67, 68, 42, 43, 78, 79, 80, 81, 82, 83, 84, 85, 86, 87, 88, 89] (by decide +kernel) (by decide +kernel)
set_option maxRecDepth 20000 in
theorem gX5_odds_X4_casesAsHeir : GoodIn wsX5_odds (wsV RX5 207 RX4 yX4_casesAsHeir wsX4_casesAsHeir) := goodIn_app (goodIn_of _ (by decide +kernel)) ggX5_odds_X4_casesAsHeir
theorem dX5_odds_0 : decode cX5_odds 0 = .ok (.aload_n 0, 1) := by decide +kernel
theorem dX5_odds_1 : decode cX5_odds 1 = .ok (.getfield 19, 3) := by decide +kernel
theorem dX5_odds_4 : decode cX5_odds 4 = .ok (.iload_n 1, 1) := by decide +kernel
theorem dX5_odds_5 : decode cX5_odds 5 = .ok (.invokevirtual 87, 3) := by decide +kernel
theorem dX5_odds_8 : decode cX5_odds 8 = .ok (.ifCond .ne 5, 3) := by decide +kernel
theorem dX5_odds_11 : decode cX5_odds 11 = .ok (.iconst (-1), 1) := by decide +kernel
theorem dX5_odds_12 : decode cX5_odds 12 = .ok (.ireturn, 1) := by decide +kernel
theorem dX5_odds_13 : decode cX5_odds 13 = .ok (.iload_n 2, 1) := by decide +kernel
theorem dX5_odds_14 : decode cX5_odds 14 = .ok (.ifCond .lt 9, 3) := by decide +kernel
theorem dX5_odds_17 : decode cX5_odds 17 = .ok (.iload_n 2, 1) := by decide +kernel
theorem dX5_odds_18 : decode cX5_odds 18 = .ok (.bipush 10, 2) := by decide +kernel
theorem dX5_odds_20 : decode cX5_odds 20 = .ok (.if_icmp .le 6, 3) := by decide +kernel
theorem dX5_odds_23 : decode cX5_odds 23 = .ok (.bipush (-2), 2) := by decide +kernel
theorem dX5_odds_25 : decode cX5_odds 25 = .ok (.ireturn, 1) := by decide +kernel
theorem dX5_odds_26 : decode cX5_odds 26 = .ok (.aload_n 0, 1) := by decide +kernel
theorem dX5_odds_27 : decode cX5_odds 27 = .ok (.getfield 19, 3) := by decide +kernel
theorem dX5_odds_30 : decode cX5_odds 30 = .ok (.iload_n 1, 1) := by decide +kernel
theorem dX5_odds_31 : decode cX5_odds 31 = .ok (.invokevirtual 109, 3) := by decide +kernel
theorem dX5_odds_34 : decode cX5_odds 34 = .ok (.ifCond .ne 10, 3) := by decide +kernel
theorem dX5_odds_37 : decode cX5_odds 37 = .ok (.iconst 0, 1) := by decide +kernel
theorem dX5_odds_38 : decode cX5_odds 38 = .ok (.iconst 1, 1) := by decide +kernel
theorem dX5_odds_39 : decode cX5_odds 39 = .ok (.iload_n 3, 1) := by decide +kernel
theorem dX5_odds_40 : decode cX5_odds 40 = .ok (.invokestatic 172, 3) := by decide +kernel
theorem dX5_odds_43 : decode cX5_odds 43 = .ok (.ireturn, 1) := by decide +kernel
theorem dX5_odds_44 : decode cX5_odds 44 = .ok (.bipush 10, 2) := by decide +kernel
theorem dX5_odds_46 : decode cX5_odds 46 = .ok (.aload_n 0, 1) := by decide +kernel
theorem dX5_odds_47 : decode cX5_odds 47 = .ok (.getfield 19, 3) := by decide +kernel
theorem dX5_odds_50 : decode cX5_odds 50 = .ok (.iload_n 1, 1) := by decide +kernel
theorem dX5_odds_51 : decode cX5_odds 51 = .ok (.invokevirtual 176, 3) := by decide +kernel
theorem dX5_odds_54 : decode cX5_odds 54 = .ok (.invokestatic 133, 3) := by decide +kernel
theorem dX5_odds_57 : decode cX5_odds 57 = .ok (.invokestatic 204, 3) := by decide +kernel
theorem dX5_odds_60 : decode cX5_odds 60 = .ok (.istore 4, 2) := by decide +kernel
theorem dX5_odds_62 : decode cX5_odds 62 = .ok (.aload_n 0, 1) := by decide +kernel
theorem dX5_odds_63 : decode cX5_odds 63 = .ok (.getfield 19, 3) := by decide +kernel
theorem dX5_odds_66 : decode cX5_odds 66 = .ok (.iload_n 1, 1) := by decide +kernel
theorem dX5_odds_67 : decode cX5_odds 67 = .ok (.iload_n 2, 1) := by decide +kernel
theorem dX5_odds_68 : decode cX5_odds 68 = .ok (.invokevirtual 207, 3) := by decide +kernel
theorem dX5_odds_71 : decode cX5_odds 71 = .ok (.iload 4, 2) := by decide +kernel
theorem dX5_odds_73 : decode cX5_odds 73 = .ok (.iload_n 3, 1) := by decide +kernel
theorem dX5_odds_74 : decode cX5_odds 74 = .ok (.invokestatic 172, 3) := by decide +kernel
theorem dX5_odds_77 : decode cX5_odds 77 = .ok (.ireturn, 1) := by decide +kernel
theorem dX5_seed_0 : decode cX5_seed 0 = .ok (.aload_n 0, 1) := by decide +kernel
theorem dX5_seed_1 : decode cX5_seed 1 = .ok (.getfield 210, 3) := by decide +kernel
theorem dX5_seed_4 : decode cX5_seed 4 = .ok (.lstore_n 3, 1) := by decide +kernel
theorem dX5_seed_5 : decode cX5_seed 5 = .ok (.aload_n 0, 1) := by decide +kernel
theorem dX5_seed_6 : decode cX5_seed 6 = .ok (.lload_n 1, 1) := by decide +kernel
theorem dX5_seed_7 : decode cX5_seed 7 = .ok (.putfield 210, 3) := by decide +kernel
theorem dX5_seed_10 : decode cX5_seed 10 = .ok (.lload_n 3, 1) := by decide +kernel
theorem dX5_seed_11 : decode cX5_seed 11 = .ok (.lreturn, 1) := by decide +kernel
set_option maxRecDepth 20000 in
theorem ggX5_towns_X4_take : GoodIn wsX5_towns wsX4_take := goodIn_r _ [11, 12, 13, 14, 15, 16, 17, 18, 19, 20, 21, 22, 23, 24, 25, 26, 27, 28, 29, 30, 31, 32, 100, 101, 102, 103, 104, 105, 106, 107, 108, 109, 110, 111] (by decide +kernel) (by decide +kernel)
set_option maxRecDepth 20000 in
theorem gX5_towns_X4_take : GoodIn wsX5_towns (wsV RX5 58 RX4 yX4_take wsX4_take) := goodIn_app (goodIn_of _ (by decide +kernel)) ggX5_towns_X4_take
set_option maxRecDepth 20000 in
theorem ggX5_towns_X4_allHeirs : GoodIn wsX5_towns wsX4_allHeirs := goodIn_r _ [36, 12, 37, 38, 39, 10, 40, 14, 41, 42, 43, 44, 15, 45, 46, 47, 48, 49, 50, 51, 13, 20, 21, 52, 30, 31, 26, 32, 28, 53, 54, 55, 56, 57, 58, 59, 60, 61, 62, 19, 100, 101, 102, 103, 104, 105, 106, 107, 108, 109, 110, 111] (by decide +kernel) (by decide +kernel)
set_option maxRecDepth 20000 in
theorem gX5_towns_X4_allHeirs : GoodIn wsX5_towns (wsV RX5 214 RX4 yX4_allHeirs wsX4_allHeirs) := goodIn_app (goodIn_of _ (by decide +kernel)) ggX5_towns_X4_allHeirs
set_option maxRecDepth 20000 in
theorem ggX5_towns_X4_stir : GoodIn wsX5_towns wsX4_stir := goodIn_r _ [66, 17, 67, 68, 69, 10, 70, 14, 71, 72, 73, 74, 13, 45, 46, 47, 75, 76, 77, 78, 53, 54, 79, 80, 81, 82, 12, 83, 84, 85, 86, 15, 100, 101, 102, 103, 104, 105, 106, 107, 108, 109, 110] (by decide +kernel) (by decide +kernel)
set_option maxRecDepth 20000 in
theorem gX5_towns_X4_stir : GoodIn wsX5_towns (wsV RX5 223 RX4 yX4_stir wsX4_stir) := goodIn_app (goodIn_of _ (by decide +kernel)) ggX5_towns_X4_stir
set_option maxRecDepth 20000 in
theorem ggX5_towns_X4_countDiffering : GoodIn wsX5_towns wsX4_countDiffering := goodIn_r _ [90, 12, 53, 46, 54, 100, 101, 102, 103, 104, 105, 106, 107, 108, 109, 110] (by decide +kernel) (by decide +kernel)
set_option maxRecDepth 20000 in
theorem gX5_towns_X4_countDiffering : GoodIn wsX5_towns (wsV RX5 226 RX4 yX4_countDiffering wsX4_countDiffering) := goodIn_app (goodIn_of _ (by decide +kernel)) ggX5_towns_X4_countDiffering
theorem dX5_towns_0 : decode cX5_towns 0 = .ok (.iload_n 1, 1) := by decide +kernel
theorem dX5_towns_1 : decode cX5_towns 1 = .ok (.iconst 1, 1) := by decide +kernel
theorem dX5_towns_2 : decode cX5_towns 2 = .ok (.if_icmp .lt 9, 3) := by decide +kernel
theorem dX5_towns_5 : decode cX5_towns 5 = .ok (.iload_n 1, 1) := by decide +kernel
theorem dX5_towns_6 : decode cX5_towns 6 = .ok (.bipush 30, 2) := by decide +kernel
theorem dX5_towns_8 : decode cX5_towns 8 = .ok (.if_icmp .le 6, 3) := by decide +kernel
theorem dX5_towns_11 : decode cX5_towns 11 = .ok (.bipush (-2), 2) := by decide +kernel
theorem dX5_towns_13 : decode cX5_towns 13 = .ok (.ireturn, 1) := by decide +kernel
theorem dX5_towns_14 : decode cX5_towns 14 = .ok (.aload_n 0, 1) := by decide +kernel
theorem dX5_towns_15 : decode cX5_towns 15 = .ok (.getfield 23, 3) := by decide +kernel
theorem dX5_towns_18 : decode cX5_towns 18 = .ok (.aload_n 0, 1) := by decide +kernel
theorem dX5_towns_19 : decode cX5_towns 19 = .ok (.getfield 19, 3) := by decide +kernel
theorem dX5_towns_22 : decode cX5_towns 22 = .ok (.invokevirtual 58, 3) := by decide +kernel
theorem dX5_towns_25 : decode cX5_towns 25 = .ok (.iconst 0, 1) := by decide +kernel
theorem dX5_towns_26 : decode cX5_towns 26 = .ok (.istore_n 2, 1) := by decide +kernel
theorem dX5_towns_27 : decode cX5_towns 27 = .ok (.aload_n 0, 1) := by decide +kernel
theorem dX5_towns_28 : decode cX5_towns 28 = .ok (.getfield 23, 3) := by decide +kernel
theorem dX5_towns_31 : decode cX5_towns 31 = .ok (.invokevirtual 214, 3) := by decide +kernel
theorem dX5_towns_34 : decode cX5_towns 34 = .ok (.istore_n 3, 1) := by decide +kernel
theorem dX5_towns_35 : decode cX5_towns 35 = .ok (.iconst 0, 1) := by decide +kernel
theorem dX5_towns_36 : decode cX5_towns 36 = .ok (.istore 4, 2) := by decide +kernel
theorem dX5_towns_38 : decode cX5_towns 38 = .ok (.iload 4, 2) := by decide +kernel
theorem dX5_towns_40 : decode cX5_towns 40 = .ok (.iload_n 1, 1) := by decide +kernel
theorem dX5_towns_41 : decode cX5_towns 41 = .ok (.if_icmp .ge 69, 3) := by decide +kernel
theorem dX5_towns_44 : decode cX5_towns 44 = .ok (.aload_n 0, 1) := by decide +kernel
theorem dX5_towns_45 : decode cX5_towns 45 = .ok (.aload_n 0, 1) := by decide +kernel
theorem dX5_towns_46 : decode cX5_towns 46 = .ok (.getfield 210, 3) := by decide +kernel
theorem dX5_towns_49 : decode cX5_towns 49 = .ok (.ldc2_w 217, 3) := by decide +kernel
theorem dX5_towns_52 : decode cX5_towns 52 = .ok (.lmul, 1) := by decide +kernel
theorem dX5_towns_53 : decode cX5_towns 53 = .ok (.ldc2_w 219, 3) := by decide +kernel
theorem dX5_towns_56 : decode cX5_towns 56 = .ok (.ladd, 1) := by decide +kernel
theorem dX5_towns_57 : decode cX5_towns 57 = .ok (.putfield 210, 3) := by decide +kernel
theorem dX5_towns_60 : decode cX5_towns 60 = .ok (.aload_n 0, 1) := by decide +kernel
theorem dX5_towns_61 : decode cX5_towns 61 = .ok (.getfield 23, 3) := by decide +kernel
theorem dX5_towns_64 : decode cX5_towns 64 = .ok (.aload_n 0, 1) := by decide +kernel
theorem dX5_towns_65 : decode cX5_towns 65 = .ok (.getfield 210, 3) := by decide +kernel
theorem dX5_towns_68 : decode cX5_towns 68 = .ok (.bipush 33, 2) := by decide +kernel
theorem dX5_towns_70 : decode cX5_towns 70 = .ok (.lushr, 1) := by decide +kernel
theorem dX5_towns_71 : decode cX5_towns 71 = .ok (.ldc2_w 221, 3) := by decide +kernel
theorem dX5_towns_74 : decode cX5_towns 74 = .ok (.lrem, 1) := by decide +kernel
theorem dX5_towns_75 : decode cX5_towns 75 = .ok (.l2i, 1) := by decide +kernel
theorem dX5_towns_76 : decode cX5_towns 76 = .ok (.invokevirtual 223, 3) := by decide +kernel
theorem dX5_towns_79 : decode cX5_towns 79 = .ok (.aload_n 0, 1) := by decide +kernel
theorem dX5_towns_80 : decode cX5_towns 80 = .ok (.getfield 23, 3) := by decide +kernel
theorem dX5_towns_83 : decode cX5_towns 83 = .ok (.invokevirtual 214, 3) := by decide +kernel
theorem dX5_towns_86 : decode cX5_towns 86 = .ok (.istore 5, 2) := by decide +kernel
theorem dX5_towns_88 : decode cX5_towns 88 = .ok (.iload_n 2, 1) := by decide +kernel
theorem dX5_towns_89 : decode cX5_towns 89 = .ok (.aload_n 0, 1) := by decide +kernel
theorem dX5_towns_90 : decode cX5_towns 90 = .ok (.getfield 23, 3) := by decide +kernel
theorem dX5_towns_93 : decode cX5_towns 93 = .ok (.iload_n 3, 1) := by decide +kernel
theorem dX5_towns_94 : decode cX5_towns 94 = .ok (.iload 5, 2) := by decide +kernel
theorem dX5_towns_96 : decode cX5_towns 96 = .ok (.invokevirtual 226, 3) := by decide +kernel
theorem dX5_towns_99 : decode cX5_towns 99 = .ok (.iadd, 1) := by decide +kernel
theorem dX5_towns_100 : decode cX5_towns 100 = .ok (.istore_n 2, 1) := by decide +kernel
theorem dX5_towns_101 : decode cX5_towns 101 = .ok (.iload 5, 2) := by decide +kernel
theorem dX5_towns_103 : decode cX5_towns 103 = .ok (.istore_n 3, 1) := by decide +kernel
theorem dX5_towns_104 : decode cX5_towns 104 = .ok (.iinc 4 1, 3) := by decide +kernel
theorem dX5_towns_107 : decode cX5_towns 107 = .ok (.goto (-69), 3) := by decide +kernel
theorem dX5_towns_110 : decode cX5_towns 110 = .ok (.iload_n 2, 1) := by decide +kernel
theorem dX5_towns_111 : decode cX5_towns 111 = .ok (.ireturn, 1) := by decide +kernel
set_option maxRecDepth 20000 in
theorem ggX5_keep_X5_slotAt : GoodIn wsX5_keep wsX5_slotAt := goodIn_r _ [7, 8, 9, 39, 40, 41, 42, 43, 44, 45, 46, 47] (by decide +kernel) (by decide +kernel)
set_option maxRecDepth 20000 in
theorem gX5_keep_X5_slotAt : GoodIn wsX5_keep (wsV RX5 229 RX5 yX5_slotAt wsX5_slotAt) := goodIn_app (goodIn_of _ (by decide +kernel)) ggX5_keep_X5_slotAt
set_option maxRecDepth 20000 in
theorem ggX5_keep_X4_take : GoodIn wsX5_keep wsX4_take := goodIn_r _ [14, 15, 16, 17, 18, 19, 20, 21, 22, 23, 24, 25, 26, 27, 28, 29, 30, 31, 32, 33, 34, 35, 48, 49, 50, 51, 52, 53, 54, 55, 56, 57, 58, 59] (by decide +kernel) (by decide +kernel)
set_option maxRecDepth 20000 in
theorem gX5_keep_X4_take : GoodIn wsX5_keep (wsV RX5 58 RX4 yX4_take wsX4_take) := goodIn_app (goodIn_of _ (by decide +kernel)) ggX5_keep_X4_take
set_option maxRecDepth 20000 in
theorem ggX5_keep_X5_bit : GoodIn wsX5_keep wsX5_bit := goodIn_r _ [38] (by decide +kernel) (by decide +kernel)
set_option maxRecDepth 20000 in
theorem gX5_keep_X5_bit : GoodIn wsX5_keep (va_wsS RX5 198 yX5_bit wsX5_bit) := goodIn_app (goodIn_of _ (by decide +kernel)) ggX5_keep_X5_bit
theorem dX5_keep_0 : decode cX5_keep 0 = .ok (.iload_n 1, 1) := by decide +kernel
theorem dX5_keep_1 : decode cX5_keep 1 = .ok (.ifCond .lt 8, 3) := by decide +kernel
theorem dX5_keep_4 : decode cX5_keep 4 = .ok (.iload_n 1, 1) := by decide +kernel
theorem dX5_keep_5 : decode cX5_keep 5 = .ok (.iconst 2, 1) := by decide +kernel
theorem dX5_keep_6 : decode cX5_keep 6 = .ok (.if_icmp .lt 5, 3) := by decide +kernel
theorem dX5_keep_9 : decode cX5_keep 9 = .ok (.iconst (-1), 1) := by decide +kernel
theorem dX5_keep_10 : decode cX5_keep 10 = .ok (.ireturn, 1) := by decide +kernel
theorem dX5_keep_11 : decode cX5_keep 11 = .ok (.aload_n 0, 1) := by decide +kernel
theorem dX5_keep_12 : decode cX5_keep 12 = .ok (.iload_n 1, 1) := by decide +kernel
theorem dX5_keep_13 : decode cX5_keep 13 = .ok (.invokevirtual 229, 3) := by decide +kernel
theorem dX5_keep_16 : decode cX5_keep 16 = .ok (.aload_n 0, 1) := by decide +kernel
theorem dX5_keep_17 : decode cX5_keep 17 = .ok (.getfield 19, 3) := by decide +kernel
theorem dX5_keep_20 : decode cX5_keep 20 = .ok (.invokevirtual 58, 3) := by decide +kernel
theorem dX5_keep_23 : decode cX5_keep 23 = .ok (.aload_n 0, 1) := by decide +kernel
theorem dX5_keep_24 : decode cX5_keep 24 = .ok (.dup, 1) := by decide +kernel
theorem dX5_keep_25 : decode cX5_keep 25 = .ok (.getfield 65, 3) := by decide +kernel
theorem dX5_keep_28 : decode cX5_keep 28 = .ok (.iload_n 1, 1) := by decide +kernel
theorem dX5_keep_29 : decode cX5_keep 29 = .ok (.invokestatic 198, 3) := by decide +kernel
theorem dX5_keep_32 : decode cX5_keep 32 = .ok (.ior, 1) := by decide +kernel
theorem dX5_keep_33 : decode cX5_keep 33 = .ok (.putfield 65, 3) := by decide +kernel
theorem dX5_keep_36 : decode cX5_keep 36 = .ok (.aload_n 0, 1) := by decide +kernel
theorem dX5_keep_37 : decode cX5_keep 37 = .ok (.getfield 19, 3) := by decide +kernel
theorem dX5_keep_40 : decode cX5_keep 40 = .ok (.getfield 83, 3) := by decide +kernel
theorem dX5_keep_43 : decode cX5_keep 43 = .ok (.ireturn, 1) := by decide +kernel
set_option maxRecDepth 20000 in
theorem ggX5_again_X5_isIn : GoodIn wsX5_again wsX5_isIn := goodIn_r _ [7] (by decide +kernel) (by decide +kernel)
set_option maxRecDepth 20000 in
theorem gX5_again_X5_isIn : GoodIn wsX5_again (va_wsS RX5 179 yX5_isIn wsX5_isIn) := goodIn_app (goodIn_of _ (by decide +kernel)) ggX5_again_X5_isIn
set_option maxRecDepth 20000 in
theorem ggX5_again_X5_slotAt : GoodIn wsX5_again wsX5_slotAt := goodIn_r _ [11, 12, 13, 40, 41, 42, 43, 44, 45, 46, 47, 48] (by decide +kernel) (by decide +kernel)
set_option maxRecDepth 20000 in
theorem gX5_again_X5_slotAt : GoodIn wsX5_again (wsV RX5 229 RX5 yX5_slotAt wsX5_slotAt) := goodIn_app (goodIn_of _ (by decide +kernel)) ggX5_again_X5_slotAt
set_option maxRecDepth 20000 in
theorem ggX5_again_X4_take : GoodIn wsX5_again wsX4_take := goodIn_r _ [18, 19, 20, 21, 22, 23, 24, 25, 26, 27, 28, 29, 30, 31, 32, 33, 34, 35, 36, 37, 38, 39, 53, 54, 55, 56, 57, 58, 59, 60, 61, 62, 63, 64] (by decide +kernel) (by decide +kernel)
set_option maxRecDepth 20000 in
theorem gX5_again_X4_take : GoodIn wsX5_again (wsV RX5 58 RX4 yX4_take wsX4_take) := goodIn_app (goodIn_of _ (by decide +kernel)) ggX5_again_X4_take
theorem dX5_again_0 : decode cX5_again 0 = .ok (.iload_n 1, 1) := by decide +kernel
theorem dX5_again_1 : decode cX5_again 1 = .ok (.ifCond .lt 8, 3) := by decide +kernel
theorem dX5_again_4 : decode cX5_again 4 = .ok (.iload_n 1, 1) := by decide +kernel
theorem dX5_again_5 : decode cX5_again 5 = .ok (.iconst 2, 1) := by decide +kernel
theorem dX5_again_6 : decode cX5_again 6 = .ok (.if_icmp .lt 5, 3) := by decide +kernel
theorem dX5_again_9 : decode cX5_again 9 = .ok (.iconst (-1), 1) := by decide +kernel
theorem dX5_again_10 : decode cX5_again 10 = .ok (.ireturn, 1) := by decide +kernel
theorem dX5_again_11 : decode cX5_again 11 = .ok (.aload_n 0, 1) := by decide +kernel
theorem dX5_again_12 : decode cX5_again 12 = .ok (.getfield 65, 3) := by decide +kernel
theorem dX5_again_15 : decode cX5_again 15 = .ok (.iload_n 1, 1) := by decide +kernel
theorem dX5_again_16 : decode cX5_again 16 = .ok (.invokestatic 179, 3) := by decide +kernel
theorem dX5_again_19 : decode cX5_again 19 = .ok (.ifCond .ne 6, 3) := by decide +kernel
theorem dX5_again_22 : decode cX5_again 22 = .ok (.bipush (-3), 2) := by decide +kernel
theorem dX5_again_24 : decode cX5_again 24 = .ok (.ireturn, 1) := by decide +kernel
theorem dX5_again_25 : decode cX5_again 25 = .ok (.aload_n 0, 1) := by decide +kernel
theorem dX5_again_26 : decode cX5_again 26 = .ok (.getfield 19, 3) := by decide +kernel
theorem dX5_again_29 : decode cX5_again 29 = .ok (.aload_n 0, 1) := by decide +kernel
theorem dX5_again_30 : decode cX5_again 30 = .ok (.iload_n 1, 1) := by decide +kernel
theorem dX5_again_31 : decode cX5_again 31 = .ok (.invokevirtual 229, 3) := by decide +kernel
theorem dX5_again_34 : decode cX5_again 34 = .ok (.invokevirtual 58, 3) := by decide +kernel
theorem dX5_again_37 : decode cX5_again 37 = .ok (.aload_n 0, 1) := by decide +kernel
theorem dX5_again_38 : decode cX5_again 38 = .ok (.getfield 35, 3) := by decide +kernel
theorem dX5_again_41 : decode cX5_again 41 = .ok (.iconst 0, 1) := by decide +kernel
theorem dX5_again_42 : decode cX5_again 42 = .ok (.putfield 62, 3) := by decide +kernel
theorem dX5_again_45 : decode cX5_again 45 = .ok (.aload_n 0, 1) := by decide +kernel
theorem dX5_again_46 : decode cX5_again 46 = .ok (.getfield 19, 3) := by decide +kernel
theorem dX5_again_49 : decode cX5_again 49 = .ok (.getfield 83, 3) := by decide +kernel
theorem dX5_again_52 : decode cX5_again 52 = .ok (.ireturn, 1) := by decide +kernel
theorem dX5_slotAt_0 : decode cX5_slotAt 0 = .ok (.iload_n 1, 1) := by decide +kernel
theorem dX5_slotAt_1 : decode cX5_slotAt 1 = .ok (.ifCond .ne 10, 3) := by decide +kernel
theorem dX5_slotAt_4 : decode cX5_slotAt 4 = .ok (.aload_n 0, 1) := by decide +kernel
theorem dX5_slotAt_5 : decode cX5_slotAt 5 = .ok (.getfield 26, 3) := by decide +kernel
theorem dX5_slotAt_8 : decode cX5_slotAt 8 = .ok (.goto 7, 3) := by decide +kernel
theorem dX5_slotAt_11 : decode cX5_slotAt 11 = .ok (.aload_n 0, 1) := by decide +kernel
theorem dX5_slotAt_12 : decode cX5_slotAt 12 = .ok (.getfield 29, 3) := by decide +kernel
theorem dX5_slotAt_15 : decode cX5_slotAt 15 = .ok (.areturn, 1) := by decide +kernel
theorem dX5_bit_0 : decode cX5_bit 0 = .ok (.iconst 1, 1) := by decide +kernel
theorem dX5_bit_1 : decode cX5_bit 1 = .ok (.iload_n 0, 1) := by decide +kernel
theorem dX5_bit_2 : decode cX5_bit 2 = .ok (.ishl, 1) := by decide +kernel
theorem dX5_bit_3 : decode cX5_bit 3 = .ok (.ireturn, 1) := by decide +kernel
theorem dX5_isIn_0 : decode cX5_isIn 0 = .ok (.iload_n 1, 1) := by decide +kernel
theorem dX5_isIn_1 : decode cX5_isIn 1 = .ok (.ifCond .lt 22, 3) := by decide +kernel
theorem dX5_isIn_4 : decode cX5_isIn 4 = .ok (.iload_n 1, 1) := by decide +kernel
theorem dX5_isIn_5 : decode cX5_isIn 5 = .ok (.bipush 7, 2) := by decide +kernel
theorem dX5_isIn_7 : decode cX5_isIn 7 = .ok (.if_icmp .ge 16, 3) := by decide +kernel
theorem dX5_isIn_10 : decode cX5_isIn 10 = .ok (.iload_n 0, 1) := by decide +kernel
theorem dX5_isIn_11 : decode cX5_isIn 11 = .ok (.iload_n 1, 1) := by decide +kernel
theorem dX5_isIn_12 : decode cX5_isIn 12 = .ok (.ishr, 1) := by decide +kernel
theorem dX5_isIn_13 : decode cX5_isIn 13 = .ok (.iconst 1, 1) := by decide +kernel
theorem dX5_isIn_14 : decode cX5_isIn 14 = .ok (.iand, 1) := by decide +kernel
theorem dX5_isIn_15 : decode cX5_isIn 15 = .ok (.iconst 1, 1) := by decide +kernel
theorem dX5_isIn_16 : decode cX5_isIn 16 = .ok (.if_icmp .ne 7, 3) := by decide +kernel
theorem dX5_isIn_19 : decode cX5_isIn 19 = .ok (.iconst 1, 1) := by decide +kernel
theorem dX5_isIn_20 : decode cX5_isIn 20 = .ok (.goto 4, 3) := by decide +kernel
theorem dX5_isIn_23 : decode cX5_isIn 23 = .ok (.iconst 0, 1) := by decide +kernel
theorem dX5_isIn_24 : decode cX5_isIn 24 = .ok (.ireturn, 1) := by decide +kernel
theorem dX5_power_0 : decode cX5_power 0 = .ok (.iconst 1, 1) := by decide +kernel
theorem dX5_power_1 : decode cX5_power 1 = .ok (.istore_n 2, 1) := by decide +kernel
theorem dX5_power_2 : decode cX5_power 2 = .ok (.iconst 0, 1) := by decide +kernel
theorem dX5_power_3 : decode cX5_power 3 = .ok (.istore_n 3, 1) := by decide +kernel
theorem dX5_power_4 : decode cX5_power 4 = .ok (.iload_n 3, 1) := by decide +kernel
theorem dX5_power_5 : decode cX5_power 5 = .ok (.iload_n 1, 1) := by decide +kernel
theorem dX5_power_6 : decode cX5_power 6 = .ok (.if_icmp .ge 13, 3) := by decide +kernel
theorem dX5_power_9 : decode cX5_power 9 = .ok (.iload_n 2, 1) := by decide +kernel
theorem dX5_power_10 : decode cX5_power 10 = .ok (.iload_n 0, 1) := by decide +kernel
theorem dX5_power_11 : decode cX5_power 11 = .ok (.imul, 1) := by decide +kernel
theorem dX5_power_12 : decode cX5_power 12 = .ok (.istore_n 2, 1) := by decide +kernel
theorem dX5_power_13 : decode cX5_power 13 = .ok (.iinc 3 1, 3) := by decide +kernel
theorem dX5_power_16 : decode cX5_power 16 = .ok (.goto (-12), 3) := by decide +kernel
theorem dX5_power_19 : decode cX5_power 19 = .ok (.iload_n 2, 1) := by decide +kernel
theorem dX5_power_20 : decode cX5_power 20 = .ok (.ireturn, 1) := by decide +kernel
theorem dX5_inLeastTerms_0 : decode cX5_inLeastTerms 0 = .ok (.iload_n 0, 1) := by decide +kernel
theorem dX5_inLeastTerms_1 : decode cX5_inLeastTerms 1 = .ok (.istore_n 3, 1) := by decide +kernel
theorem dX5_inLeastTerms_2 : decode cX5_inLeastTerms 2 = .ok (.iload_n 1, 1) := by decide +kernel
theorem dX5_inLeastTerms_3 : decode cX5_inLeastTerms 3 = .ok (.istore 4, 2) := by decide +kernel
theorem dX5_inLeastTerms_5 : decode cX5_inLeastTerms 5 = .ok (.iconst 0, 1) := by decide +kernel
theorem dX5_inLeastTerms_6 : decode cX5_inLeastTerms 6 = .ok (.istore 5, 2) := by decide +kernel
theorem dX5_inLeastTerms_8 : decode cX5_inLeastTerms 8 = .ok (.iload 4, 2) := by decide +kernel
theorem dX5_inLeastTerms_10 : decode cX5_inLeastTerms 10 = .ok (.ifCond .eq 29, 3) := by decide +kernel
theorem dX5_inLeastTerms_13 : decode cX5_inLeastTerms 13 = .ok (.iload 5, 2) := by decide +kernel
theorem dX5_inLeastTerms_15 : decode cX5_inLeastTerms 15 = .ok (.bipush 100, 2) := by decide +kernel
theorem dX5_inLeastTerms_17 : decode cX5_inLeastTerms 17 = .ok (.if_icmp .ge 22, 3) := by decide +kernel
theorem dX5_inLeastTerms_20 : decode cX5_inLeastTerms 20 = .ok (.iload_n 3, 1) := by decide +kernel
theorem dX5_inLeastTerms_21 : decode cX5_inLeastTerms 21 = .ok (.iload 4, 2) := by decide +kernel
theorem dX5_inLeastTerms_23 : decode cX5_inLeastTerms 23 = .ok (.irem, 1) := by decide +kernel
theorem dX5_inLeastTerms_24 : decode cX5_inLeastTerms 24 = .ok (.istore 6, 2) := by decide +kernel
theorem dX5_inLeastTerms_26 : decode cX5_inLeastTerms 26 = .ok (.iload 4, 2) := by decide +kernel
theorem dX5_inLeastTerms_28 : decode cX5_inLeastTerms 28 = .ok (.istore_n 3, 1) := by decide +kernel
theorem dX5_inLeastTerms_29 : decode cX5_inLeastTerms 29 = .ok (.iload 6, 2) := by decide +kernel
theorem dX5_inLeastTerms_31 : decode cX5_inLeastTerms 31 = .ok (.istore 4, 2) := by decide +kernel
theorem dX5_inLeastTerms_33 : decode cX5_inLeastTerms 33 = .ok (.iinc 5 1, 3) := by decide +kernel
theorem dX5_inLeastTerms_36 : decode cX5_inLeastTerms 36 = .ok (.goto (-28), 3) := by decide +kernel
theorem dX5_inLeastTerms_39 : decode cX5_inLeastTerms 39 = .ok (.iload_n 3, 1) := by decide +kernel
theorem dX5_inLeastTerms_40 : decode cX5_inLeastTerms 40 = .ok (.ifCond .ne 5, 3) := by decide +kernel
theorem dX5_inLeastTerms_43 : decode cX5_inLeastTerms 43 = .ok (.iconst 0, 1) := by decide +kernel
theorem dX5_inLeastTerms_44 : decode cX5_inLeastTerms 44 = .ok (.ireturn, 1) := by decide +kernel
theorem dX5_inLeastTerms_45 : decode cX5_inLeastTerms 45 = .ok (.iload_n 2, 1) := by decide +kernel
theorem dX5_inLeastTerms_46 : decode cX5_inLeastTerms 46 = .ok (.ifCond .eq 7, 3) := by decide +kernel
theorem dX5_inLeastTerms_49 : decode cX5_inLeastTerms 49 = .ok (.iload_n 0, 1) := by decide +kernel
theorem dX5_inLeastTerms_50 : decode cX5_inLeastTerms 50 = .ok (.goto 4, 3) := by decide +kernel
theorem dX5_inLeastTerms_53 : decode cX5_inLeastTerms 53 = .ok (.iload_n 1, 1) := by decide +kernel
theorem dX5_inLeastTerms_54 : decode cX5_inLeastTerms 54 = .ok (.iload_n 3, 1) := by decide +kernel
theorem dX5_inLeastTerms_55 : decode cX5_inLeastTerms 55 = .ok (.idiv, 1) := by decide +kernel
theorem dX5_inLeastTerms_56 : decode cX5_inLeastTerms 56 = .ok (.ireturn, 1) := by decide +kernel
