theorem dX0_init_0 : decode cX0_init 0 = .ok (.aload_n 0, 1) := by decide +kernel
theorem dX0_init_1 : decode cX0_init 1 = .ok (.invokespecial 3, 3) := by decide +kernel
theorem dX0_init_4 : decode cX0_init 4 = .ok (.aload_n 0, 1) := by decide +kernel
theorem dX0_init_5 : decode cX0_init 5 = .ok (.bipush 40, 2) := by decide +kernel
theorem dX0_init_7 : decode cX0_init 7 = .ok (.newarray .int, 2) := by decide +kernel
theorem dX0_init_9 : decode cX0_init 9 = .ok (.putfield 9, 3) := by decide +kernel
theorem dX0_init_12 : decode cX0_init 12 = .ok (.aload_n 0, 1) := by decide +kernel
theorem dX0_init_13 : decode cX0_init 13 = .ok (.bipush 40, 2) := by decide +kernel
theorem dX0_init_15 : decode cX0_init 15 = .ok (.newarray .int, 2) := by decide +kernel
theorem dX0_init_17 : decode cX0_init 17 = .ok (.putfield 15, 3) := by decide +kernel
theorem dX0_init_20 : decode cX0_init 20 = .ok (.aload_n 0, 1) := by decide +kernel
theorem dX0_init_21 : decode cX0_init 21 = .ok (.bipush 40, 2) := by decide +kernel
theorem dX0_init_23 : decode cX0_init 23 = .ok (.newarray .int, 2) := by decide +kernel
theorem dX0_init_25 : decode cX0_init 25 = .ok (.putfield 18, 3) := by decide +kernel
theorem dX0_init_28 : decode cX0_init 28 = .ok (.aload_n 0, 1) := by decide +kernel
theorem dX0_init_29 : decode cX0_init 29 = .ok (.bipush 40, 2) := by decide +kernel
theorem dX0_init_31 : decode cX0_init 31 = .ok (.newarray .int, 2) := by decide +kernel
theorem dX0_init_33 : decode cX0_init 33 = .ok (.putfield 21, 3) := by decide +kernel
theorem dX0_init_36 : decode cX0_init 36 = .ok (.return_, 1) := by decide +kernel
set_option maxRecDepth 20000 in
theorem ggX0_add_X0_forgetFirst : GoodIn wsX0_add wsX0_forgetFirst := goodIn_r _ [11, 2, 3, 4, 5, 1, 12, 13, 14, 15, 16, 17] rfl (by decide +kernel)
set_option maxRecDepth 20000 in
theorem gX0_add_X0_forgetFirst : GoodIn wsX0_add (wsV RX0 28 RX0 yX0_forgetFirst wsX0_forgetFirst) := goodIn_app (goodIn_r _ [7, 8, 9, 10] rfl (by decide +kernel)) ggX0_add_X0_forgetFirst
theorem dX0_add_0 : decode cX0_add 0 = .ok (.aload_n 0, 1) := by decide +kernel
theorem dX0_add_1 : decode cX0_add 1 = .ok (.getfield 24, 3) := by decide +kernel
theorem dX0_add_4 : decode cX0_add 4 = .ok (.bipush 40, 2) := by decide +kernel
theorem dX0_add_6 : decode cX0_add 6 = .ok (.if_icmp .lt 7, 3) := by decide +kernel
theorem dX0_add_9 : decode cX0_add 9 = .ok (.aload_n 0, 1) := by decide +kernel
theorem dX0_add_10 : decode cX0_add 10 = .ok (.invokevirtual 28, 3) := by decide +kernel
theorem dX0_add_13 : decode cX0_add 13 = .ok (.aload_n 0, 1) := by decide +kernel
theorem dX0_add_14 : decode cX0_add 14 = .ok (.getfield 9, 3) := by decide +kernel
theorem dX0_add_17 : decode cX0_add 17 = .ok (.aload_n 0, 1) := by decide +kernel
theorem dX0_add_18 : decode cX0_add 18 = .ok (.getfield 24, 3) := by decide +kernel
theorem dX0_add_21 : decode cX0_add 21 = .ok (.iload_n 1, 1) := by decide +kernel
theorem dX0_add_22 : decode cX0_add 22 = .ok (.iastore, 1) := by decide +kernel
theorem dX0_add_23 : decode cX0_add 23 = .ok (.aload_n 0, 1) := by decide +kernel
theorem dX0_add_24 : decode cX0_add 24 = .ok (.getfield 15, 3) := by decide +kernel
theorem dX0_add_27 : decode cX0_add 27 = .ok (.aload_n 0, 1) := by decide +kernel
theorem dX0_add_28 : decode cX0_add 28 = .ok (.getfield 24, 3) := by decide +kernel
theorem dX0_add_31 : decode cX0_add 31 = .ok (.iload_n 2, 1) := by decide +kernel
theorem dX0_add_32 : decode cX0_add 32 = .ok (.iastore, 1) := by decide +kernel
theorem dX0_add_33 : decode cX0_add 33 = .ok (.aload_n 0, 1) := by decide +kernel
theorem dX0_add_34 : decode cX0_add 34 = .ok (.getfield 18, 3) := by decide +kernel
theorem dX0_add_37 : decode cX0_add 37 = .ok (.aload_n 0, 1) := by decide +kernel
theorem dX0_add_38 : decode cX0_add 38 = .ok (.getfield 24, 3) := by decide +kernel
theorem dX0_add_41 : decode cX0_add 41 = .ok (.iload_n 3, 1) := by decide +kernel
theorem dX0_add_42 : decode cX0_add 42 = .ok (.iastore, 1) := by decide +kernel
theorem dX0_add_43 : decode cX0_add 43 = .ok (.aload_n 0, 1) := by decide +kernel
theorem dX0_add_44 : decode cX0_add 44 = .ok (.getfield 21, 3) := by decide +kernel
theorem dX0_add_47 : decode cX0_add 47 = .ok (.aload_n 0, 1) := by decide +kernel
theorem dX0_add_48 : decode cX0_add 48 = .ok (.getfield 24, 3) := by decide +kernel
theorem dX0_add_51 : decode cX0_add 51 = .ok (.iload 4, 2) := by decide +kernel
theorem dX0_add_53 : decode cX0_add 53 = .ok (.iastore, 1) := by decide +kernel
theorem dX0_add_54 : decode cX0_add 54 = .ok (.aload_n 0, 1) := by decide +kernel
theorem dX0_add_55 : decode cX0_add 55 = .ok (.dup, 1) := by decide +kernel
theorem dX0_add_56 : decode cX0_add 56 = .ok (.getfield 24, 3) := by decide +kernel
theorem dX0_add_59 : decode cX0_add 59 = .ok (.iconst 1, 1) := by decide +kernel
theorem dX0_add_60 : decode cX0_add 60 = .ok (.iadd, 1) := by decide +kernel
theorem dX0_add_61 : decode cX0_add 61 = .ok (.putfield 24, 3) := by decide +kernel
theorem dX0_add_64 : decode cX0_add 64 = .ok (.aload_n 0, 1) := by decide +kernel
theorem dX0_add_65 : decode cX0_add 65 = .ok (.aload_n 0, 1) := by decide +kernel
theorem dX0_add_66 : decode cX0_add 66 = .ok (.getfield 24, 3) := by decide +kernel
theorem dX0_add_69 : decode cX0_add 69 = .ok (.putfield 31, 3) := by decide +kernel
theorem dX0_add_72 : decode cX0_add 72 = .ok (.return_, 1) := by decide +kernel
theorem dX0_forgetFirst_0 : decode cX0_forgetFirst 0 = .ok (.iconst 1, 1) := by decide +kernel
theorem dX0_forgetFirst_1 : decode cX0_forgetFirst 1 = .ok (.istore_n 1, 1) := by decide +kernel
theorem dX0_forgetFirst_2 : decode cX0_forgetFirst 2 = .ok (.iload_n 1, 1) := by decide +kernel
theorem dX0_forgetFirst_3 : decode cX0_forgetFirst 3 = .ok (.bipush 40, 2) := by decide +kernel
theorem dX0_forgetFirst_5 : decode cX0_forgetFirst 5 = .ok (.if_icmp .ge 65, 3) := by decide +kernel
theorem dX0_forgetFirst_8 : decode cX0_forgetFirst 8 = .ok (.aload_n 0, 1) := by decide +kernel
theorem dX0_forgetFirst_9 : decode cX0_forgetFirst 9 = .ok (.getfield 9, 3) := by decide +kernel
theorem dX0_forgetFirst_12 : decode cX0_forgetFirst 12 = .ok (.iload_n 1, 1) := by decide +kernel
theorem dX0_forgetFirst_13 : decode cX0_forgetFirst 13 = .ok (.iconst 1, 1) := by decide +kernel
theorem dX0_forgetFirst_14 : decode cX0_forgetFirst 14 = .ok (.isub, 1) := by decide +kernel
theorem dX0_forgetFirst_15 : decode cX0_forgetFirst 15 = .ok (.aload_n 0, 1) := by decide +kernel
theorem dX0_forgetFirst_16 : decode cX0_forgetFirst 16 = .ok (.getfield 9, 3) := by decide +kernel
theorem dX0_forgetFirst_19 : decode cX0_forgetFirst 19 = .ok (.iload_n 1, 1) := by decide +kernel
theorem dX0_forgetFirst_20 : decode cX0_forgetFirst 20 = .ok (.iaload, 1) := by decide +kernel
theorem dX0_forgetFirst_21 : decode cX0_forgetFirst 21 = .ok (.iastore, 1) := by decide +kernel
theorem dX0_forgetFirst_22 : decode cX0_forgetFirst 22 = .ok (.aload_n 0, 1) := by decide +kernel
theorem dX0_forgetFirst_23 : decode cX0_forgetFirst 23 = .ok (.getfield 15, 3) := by decide +kernel
theorem dX0_forgetFirst_26 : decode cX0_forgetFirst 26 = .ok (.iload_n 1, 1) := by decide +kernel
theorem dX0_forgetFirst_27 : decode cX0_forgetFirst 27 = .ok (.iconst 1, 1) := by decide +kernel
theorem dX0_forgetFirst_28 : decode cX0_forgetFirst 28 = .ok (.isub, 1) := by decide +kernel
theorem dX0_forgetFirst_29 : decode cX0_forgetFirst 29 = .ok (.aload_n 0, 1) := by decide +kernel
theorem dX0_forgetFirst_30 : decode cX0_forgetFirst 30 = .ok (.getfield 15, 3) := by decide +kernel
theorem dX0_forgetFirst_33 : decode cX0_forgetFirst 33 = .ok (.iload_n 1, 1) := by decide +kernel
theorem dX0_forgetFirst_34 : decode cX0_forgetFirst 34 = .ok (.iaload, 1) := by decide +kernel
theorem dX0_forgetFirst_35 : decode cX0_forgetFirst 35 = .ok (.iastore, 1) := by decide +kernel
theorem dX0_forgetFirst_36 : decode cX0_forgetFirst 36 = .ok (.aload_n 0, 1) := by decide +kernel
theorem dX0_forgetFirst_37 : decode cX0_forgetFirst 37 = .ok (.getfield 18, 3) := by decide +kernel
theorem dX0_forgetFirst_40 : decode cX0_forgetFirst 40 = .ok (.iload_n 1, 1) := by decide +kernel
theorem dX0_forgetFirst_41 : decode cX0_forgetFirst 41 = .ok (.iconst 1, 1) := by decide +kernel
theorem dX0_forgetFirst_42 : decode cX0_forgetFirst 42 = .ok (.isub, 1) := by decide +kernel
theorem dX0_forgetFirst_43 : decode cX0_forgetFirst 43 = .ok (.aload_n 0, 1) := by decide +kernel
theorem dX0_forgetFirst_44 : decode cX0_forgetFirst 44 = .ok (.getfield 18, 3) := by decide +kernel
theorem dX0_forgetFirst_47 : decode cX0_forgetFirst 47 = .ok (.iload_n 1, 1) := by decide +kernel
theorem dX0_forgetFirst_48 : decode cX0_forgetFirst 48 = .ok (.iaload, 1) := by decide +kernel
theorem dX0_forgetFirst_49 : decode cX0_forgetFirst 49 = .ok (.iastore, 1) := by decide +kernel
theorem dX0_forgetFirst_50 : decode cX0_forgetFirst 50 = .ok (.aload_n 0, 1) := by decide +kernel
theorem dX0_forgetFirst_51 : decode cX0_forgetFirst 51 = .ok (.getfield 21, 3) := by decide +kernel
theorem dX0_forgetFirst_54 : decode cX0_forgetFirst 54 = .ok (.iload_n 1, 1) := by decide +kernel
theorem dX0_forgetFirst_55 : decode cX0_forgetFirst 55 = .ok (.iconst 1, 1) := by decide +kernel
theorem dX0_forgetFirst_56 : decode cX0_forgetFirst 56 = .ok (.isub, 1) := by decide +kernel
theorem dX0_forgetFirst_57 : decode cX0_forgetFirst 57 = .ok (.aload_n 0, 1) := by decide +kernel
theorem dX0_forgetFirst_58 : decode cX0_forgetFirst 58 = .ok (.getfield 21, 3) := by decide +kernel
theorem dX0_forgetFirst_61 : decode cX0_forgetFirst 61 = .ok (.iload_n 1, 1) := by decide +kernel
theorem dX0_forgetFirst_62 : decode cX0_forgetFirst 62 = .ok (.iaload, 1) := by decide +kernel
theorem dX0_forgetFirst_63 : decode cX0_forgetFirst 63 = .ok (.iastore, 1) := by decide +kernel
theorem dX0_forgetFirst_64 : decode cX0_forgetFirst 64 = .ok (.iinc 1 1, 3) := by decide +kernel
theorem dX0_forgetFirst_67 : decode cX0_forgetFirst 67 = .ok (.goto (-65), 3) := by decide +kernel
theorem dX0_forgetFirst_70 : decode cX0_forgetFirst 70 = .ok (.aload_n 0, 1) := by decide +kernel
theorem dX0_forgetFirst_71 : decode cX0_forgetFirst 71 = .ok (.bipush 39, 2) := by decide +kernel
theorem dX0_forgetFirst_73 : decode cX0_forgetFirst 73 = .ok (.putfield 24, 3) := by decide +kernel
theorem dX0_forgetFirst_76 : decode cX0_forgetFirst 76 = .ok (.return_, 1) := by decide +kernel
theorem dX0_stepBack_0 : decode cX0_stepBack 0 = .ok (.aload_n 0, 1) := by decide +kernel
theorem dX0_stepBack_1 : decode cX0_stepBack 1 = .ok (.getfield 24, 3) := by decide +kernel
theorem dX0_stepBack_4 : decode cX0_stepBack 4 = .ok (.ifCond .gt 5, 3) := by decide +kernel
theorem dX0_stepBack_7 : decode cX0_stepBack 7 = .ok (.iconst (-1), 1) := by decide +kernel
theorem dX0_stepBack_8 : decode cX0_stepBack 8 = .ok (.ireturn, 1) := by decide +kernel
theorem dX0_stepBack_9 : decode cX0_stepBack 9 = .ok (.aload_n 0, 1) := by decide +kernel
theorem dX0_stepBack_10 : decode cX0_stepBack 10 = .ok (.dup, 1) := by decide +kernel
theorem dX0_stepBack_11 : decode cX0_stepBack 11 = .ok (.getfield 24, 3) := by decide +kernel
theorem dX0_stepBack_14 : decode cX0_stepBack 14 = .ok (.iconst 1, 1) := by decide +kernel
theorem dX0_stepBack_15 : decode cX0_stepBack 15 = .ok (.isub, 1) := by decide +kernel
theorem dX0_stepBack_16 : decode cX0_stepBack 16 = .ok (.putfield 24, 3) := by decide +kernel
theorem dX0_stepBack_19 : decode cX0_stepBack 19 = .ok (.aload_n 0, 1) := by decide +kernel
theorem dX0_stepBack_20 : decode cX0_stepBack 20 = .ok (.getfield 24, 3) := by decide +kernel
theorem dX0_stepBack_23 : decode cX0_stepBack 23 = .ok (.ireturn, 1) := by decide +kernel
theorem dX0_stepOn_0 : decode cX0_stepOn 0 = .ok (.aload_n 0, 1) := by decide +kernel
theorem dX0_stepOn_1 : decode cX0_stepOn 1 = .ok (.getfield 24, 3) := by decide +kernel
theorem dX0_stepOn_4 : decode cX0_stepOn 4 = .ok (.aload_n 0, 1) := by decide +kernel
theorem dX0_stepOn_5 : decode cX0_stepOn 5 = .ok (.getfield 31, 3) := by decide +kernel
theorem dX0_stepOn_8 : decode cX0_stepOn 8 = .ok (.if_icmp .lt 5, 3) := by decide +kernel
theorem dX0_stepOn_11 : decode cX0_stepOn 11 = .ok (.iconst (-1), 1) := by decide +kernel
theorem dX0_stepOn_12 : decode cX0_stepOn 12 = .ok (.ireturn, 1) := by decide +kernel
theorem dX0_stepOn_13 : decode cX0_stepOn 13 = .ok (.aload_n 0, 1) := by decide +kernel
theorem dX0_stepOn_14 : decode cX0_stepOn 14 = .ok (.dup, 1) := by decide +kernel
theorem dX0_stepOn_15 : decode cX0_stepOn 15 = .ok (.getfield 24, 3) := by decide +kernel
theorem dX0_stepOn_18 : decode cX0_stepOn 18 = .ok (.iconst 1, 1) := by decide +kernel
theorem dX0_stepOn_19 : decode cX0_stepOn 19 = .ok (.iadd, 1) := by decide +kernel
theorem dX0_stepOn_20 : decode cX0_stepOn 20 = .ok (.putfield 24, 3) := by decide +kernel
theorem dX0_stepOn_23 : decode cX0_stepOn 23 = .ok (.aload_n 0, 1) := by decide +kernel
theorem dX0_stepOn_24 : decode cX0_stepOn 24 = .ok (.getfield 24, 3) := by decide +kernel
theorem dX0_stepOn_27 : decode cX0_stepOn 27 = .ok (.iconst 1, 1) := by decide +kernel
theorem dX0_stepOn_28 : decode cX0_stepOn 28 = .ok (.isub, 1) := by decide +kernel
theorem dX0_stepOn_29 : decode cX0_stepOn 29 = .ok (.ireturn, 1) := by decide +kernel
theorem dX1_init_0 : decode cX1_init 0 = .ok (.aload_n 0, 1) := by decide +kernel
theorem dX1_init_1 : decode cX1_init 1 = .ok (.invokespecial 3, 3) := by decide +kernel
theorem dX1_init_4 : decode cX1_init 4 = .ok (.aload_n 0, 1) := by decide +kernel
theorem dX1_init_5 : decode cX1_init 5 = .ok (.bipush 8, 2) := by decide +kernel
theorem dX1_init_7 : decode cX1_init 7 = .ok (.newarray .int, 2) := by decide +kernel
theorem dX1_init_9 : decode cX1_init 9 = .ok (.putfield 9, 3) := by decide +kernel
theorem dX1_init_12 : decode cX1_init 12 = .ok (.aload_n 0, 1) := by decide +kernel
theorem dX1_init_13 : decode cX1_init 13 = .ok (.bipush 8, 2) := by decide +kernel
theorem dX1_init_15 : decode cX1_init 15 = .ok (.newarray .int, 2) := by decide +kernel
theorem dX1_init_17 : decode cX1_init 17 = .ok (.putfield 15, 3) := by decide +kernel
theorem dX1_init_20 : decode cX1_init 20 = .ok (.aload_n 0, 1) := by decide +kernel
theorem dX1_init_21 : decode cX1_init 21 = .ok (.bipush 8, 2) := by decide +kernel
theorem dX1_init_23 : decode cX1_init 23 = .ok (.newarray .int, 2) := by decide +kernel
theorem dX1_init_25 : decode cX1_init 25 = .ok (.putfield 18, 3) := by decide +kernel
theorem dX1_init_28 : decode cX1_init 28 = .ok (.aload_n 0, 1) := by decide +kernel
theorem dX1_init_29 : decode cX1_init 29 = .ok (.bipush 8, 2) := by decide +kernel
theorem dX1_init_31 : decode cX1_init 31 = .ok (.newarray .int, 2) := by decide +kernel
theorem dX1_init_33 : decode cX1_init 33 = .ok (.putfield 21, 3) := by decide +kernel
theorem dX1_init_36 : decode cX1_init 36 = .ok (.aload_n 0, 1) := by decide +kernel
theorem dX1_init_37 : decode cX1_init 37 = .ok (.bipush 8, 2) := by decide +kernel
theorem dX1_init_39 : decode cX1_init 39 = .ok (.newarray .int, 2) := by decide +kernel
theorem dX1_init_41 : decode cX1_init 41 = .ok (.putfield 24, 3) := by decide +kernel
theorem dX1_init_44 : decode cX1_init 44 = .ok (.return_, 1) := by decide +kernel
set_option maxRecDepth 20000 in
theorem ggX1_fits_X11_isLand : GoodIn wsX1_fits wsX11_isLand := goodIn_r _ [3, 4, 5, 2, 6] rfl (by decide +kernel)
set_option maxRecDepth 20000 in
theorem gX1_fits_X11_isLand_n27 : GoodIn wsX1_fits (wsX11_isLand) := ggX1_fits_X11_isLand
set_option maxRecDepth 20000 in
theorem ggX1_fits_X11_within : GoodIn wsX1_fits wsX11_within := goodIn_r _ [6] rfl (by decide +kernel)
set_option maxRecDepth 20000 in
theorem gX1_fits_X11_within_n31 : GoodIn wsX1_fits (wsX11_within) := ggX1_fits_X11_within
theorem dX1_fits_0 : decode cX1_fits 0 = .ok (.iload_n 0, 1) := by decide +kernel
theorem dX1_fits_1 : decode cX1_fits 1 = .ok (.invokestatic 27, 3) := by decide +kernel
theorem dX1_fits_4 : decode cX1_fits 4 = .ok (.ifCond .eq 37, 3) := by decide +kernel
theorem dX1_fits_7 : decode cX1_fits 7 = .ok (.iload_n 1, 1) := by decide +kernel
theorem dX1_fits_8 : decode cX1_fits 8 = .ok (.iconst 1, 1) := by decide +kernel
theorem dX1_fits_9 : decode cX1_fits 9 = .ok (.bipush 40, 2) := by decide +kernel
theorem dX1_fits_11 : decode cX1_fits 11 = .ok (.invokestatic 31, 3) := by decide +kernel
theorem dX1_fits_14 : decode cX1_fits 14 = .ok (.ifCond .eq 27, 3) := by decide +kernel
theorem dX1_fits_17 : decode cX1_fits 17 = .ok (.iload_n 2, 1) := by decide +kernel
theorem dX1_fits_18 : decode cX1_fits 18 = .ok (.iconst 0, 1) := by decide +kernel
theorem dX1_fits_19 : decode cX1_fits 19 = .ok (.bipush 99, 2) := by decide +kernel
theorem dX1_fits_21 : decode cX1_fits 21 = .ok (.invokestatic 31, 3) := by decide +kernel
theorem dX1_fits_24 : decode cX1_fits 24 = .ok (.ifCond .eq 17, 3) := by decide +kernel
theorem dX1_fits_27 : decode cX1_fits 27 = .ok (.iload_n 3, 1) := by decide +kernel
theorem dX1_fits_28 : decode cX1_fits 28 = .ok (.iconst 0, 1) := by decide +kernel
theorem dX1_fits_29 : decode cX1_fits 29 = .ok (.bipush 99, 2) := by decide +kernel
theorem dX1_fits_31 : decode cX1_fits 31 = .ok (.invokestatic 31, 3) := by decide +kernel
theorem dX1_fits_34 : decode cX1_fits 34 = .ok (.ifCond .eq 7, 3) := by decide +kernel
theorem dX1_fits_37 : decode cX1_fits 37 = .ok (.iconst 1, 1) := by decide +kernel
theorem dX1_fits_38 : decode cX1_fits 38 = .ok (.goto 4, 3) := by decide +kernel
theorem dX1_fits_41 : decode cX1_fits 41 = .ok (.iconst 0, 1) := by decide +kernel
theorem dX1_fits_42 : decode cX1_fits 42 = .ok (.ireturn, 1) := by decide +kernel
theorem dX1_knows_0 : decode cX1_knows 0 = .ok (.iload_n 1, 1) := by decide +kernel
theorem dX1_knows_1 : decode cX1_knows 1 = .ok (.ifCond .lt 15, 3) := by decide +kernel
theorem dX1_knows_4 : decode cX1_knows 4 = .ok (.iload_n 1, 1) := by decide +kernel
theorem dX1_knows_5 : decode cX1_knows 5 = .ok (.aload_n 0, 1) := by decide +kernel
theorem dX1_knows_6 : decode cX1_knows 6 = .ok (.getfield 35, 3) := by decide +kernel
theorem dX1_knows_9 : decode cX1_knows 9 = .ok (.if_icmp .ge 7, 3) := by decide +kernel
theorem dX1_knows_12 : decode cX1_knows 12 = .ok (.iconst 1, 1) := by decide +kernel
theorem dX1_knows_13 : decode cX1_knows 13 = .ok (.goto 4, 3) := by decide +kernel
theorem dX1_knows_16 : decode cX1_knows 16 = .ok (.iconst 0, 1) := by decide +kernel
theorem dX1_knows_17 : decode cX1_knows 17 = .ok (.ireturn, 1) := by decide +kernel
theorem dX1_add_0 : decode cX1_add 0 = .ok (.aload_n 0, 1) := by decide +kernel
theorem dX1_add_1 : decode cX1_add 1 = .ok (.getfield 35, 3) := by decide +kernel
theorem dX1_add_4 : decode cX1_add 4 = .ok (.bipush 8, 2) := by decide +kernel
theorem dX1_add_6 : decode cX1_add 6 = .ok (.if_icmp .lt 5, 3) := by decide +kernel
theorem dX1_add_9 : decode cX1_add 9 = .ok (.iconst 0, 1) := by decide +kernel
theorem dX1_add_10 : decode cX1_add 10 = .ok (.ireturn, 1) := by decide +kernel
theorem dX1_add_11 : decode cX1_add 11 = .ok (.aload_n 0, 1) := by decide +kernel
theorem dX1_add_12 : decode cX1_add 12 = .ok (.getfield 9, 3) := by decide +kernel
theorem dX1_add_15 : decode cX1_add 15 = .ok (.aload_n 0, 1) := by decide +kernel
theorem dX1_add_16 : decode cX1_add 16 = .ok (.getfield 35, 3) := by decide +kernel
theorem dX1_add_19 : decode cX1_add 19 = .ok (.iload_n 1, 1) := by decide +kernel
theorem dX1_add_20 : decode cX1_add 20 = .ok (.iastore, 1) := by decide +kernel
theorem dX1_add_21 : decode cX1_add 21 = .ok (.aload_n 0, 1) := by decide +kernel
theorem dX1_add_22 : decode cX1_add 22 = .ok (.getfield 15, 3) := by decide +kernel
theorem dX1_add_25 : decode cX1_add 25 = .ok (.aload_n 0, 1) := by decide +kernel
theorem dX1_add_26 : decode cX1_add 26 = .ok (.getfield 35, 3) := by decide +kernel
theorem dX1_add_29 : decode cX1_add 29 = .ok (.iload_n 2, 1) := by decide +kernel
theorem dX1_add_30 : decode cX1_add 30 = .ok (.iastore, 1) := by decide +kernel
theorem dX1_add_31 : decode cX1_add 31 = .ok (.aload_n 0, 1) := by decide +kernel
theorem dX1_add_32 : decode cX1_add 32 = .ok (.getfield 18, 3) := by decide +kernel
theorem dX1_add_35 : decode cX1_add 35 = .ok (.aload_n 0, 1) := by decide +kernel
theorem dX1_add_36 : decode cX1_add 36 = .ok (.getfield 35, 3) := by decide +kernel
theorem dX1_add_39 : decode cX1_add 39 = .ok (.iload_n 3, 1) := by decide +kernel
theorem dX1_add_40 : decode cX1_add 40 = .ok (.iastore, 1) := by decide +kernel
theorem dX1_add_41 : decode cX1_add 41 = .ok (.aload_n 0, 1) := by decide +kernel
theorem dX1_add_42 : decode cX1_add 42 = .ok (.getfield 21, 3) := by decide +kernel
theorem dX1_add_45 : decode cX1_add 45 = .ok (.aload_n 0, 1) := by decide +kernel
theorem dX1_add_46 : decode cX1_add 46 = .ok (.getfield 35, 3) := by decide +kernel
theorem dX1_add_49 : decode cX1_add 49 = .ok (.iload 4, 2) := by decide +kernel
theorem dX1_add_51 : decode cX1_add 51 = .ok (.iastore, 1) := by decide +kernel
theorem dX1_add_52 : decode cX1_add 52 = .ok (.aload_n 0, 1) := by decide +kernel
theorem dX1_add_53 : decode cX1_add 53 = .ok (.getfield 24, 3) := by decide +kernel
theorem dX1_add_56 : decode cX1_add 56 = .ok (.aload_n 0, 1) := by decide +kernel
theorem dX1_add_57 : decode cX1_add 57 = .ok (.getfield 35, 3) := by decide +kernel
theorem dX1_add_60 : decode cX1_add 60 = .ok (.iconst 0, 1) := by decide +kernel
theorem dX1_add_61 : decode cX1_add 61 = .ok (.iastore, 1) := by decide +kernel
theorem dX1_add_62 : decode cX1_add 62 = .ok (.aload_n 0, 1) := by decide +kernel
theorem dX1_add_63 : decode cX1_add 63 = .ok (.dup, 1) := by decide +kernel
theorem dX1_add_64 : decode cX1_add 64 = .ok (.getfield 35, 3) := by decide +kernel
theorem dX1_add_67 : decode cX1_add 67 = .ok (.iconst 1, 1) := by decide +kernel
theorem dX1_add_68 : decode cX1_add 68 = .ok (.iadd, 1) := by decide +kernel
theorem dX1_add_69 : decode cX1_add 69 = .ok (.putfield 35, 3) := by decide +kernel
theorem dX1_add_72 : decode cX1_add 72 = .ok (.iconst 1, 1) := by decide +kernel
theorem dX1_add_73 : decode cX1_add 73 = .ok (.ireturn, 1) := by decide +kernel
theorem dX1_worthOf_0 : decode cX1_worthOf 0 = .ok (.iconst 0, 1) := by decide +kernel
theorem dX1_worthOf_1 : decode cX1_worthOf 1 = .ok (.istore_n 2, 1) := by decide +kernel
theorem dX1_worthOf_2 : decode cX1_worthOf 2 = .ok (.iconst 0, 1) := by decide +kernel
theorem dX1_worthOf_3 : decode cX1_worthOf 3 = .ok (.istore_n 3, 1) := by decide +kernel
theorem dX1_worthOf_4 : decode cX1_worthOf 4 = .ok (.iload_n 3, 1) := by decide +kernel
theorem dX1_worthOf_5 : decode cX1_worthOf 5 = .ok (.aload_n 0, 1) := by decide +kernel
theorem dX1_worthOf_6 : decode cX1_worthOf 6 = .ok (.getfield 35, 3) := by decide +kernel
theorem dX1_worthOf_9 : decode cX1_worthOf 9 = .ok (.if_icmp .ge 39, 3) := by decide +kernel
theorem dX1_worthOf_12 : decode cX1_worthOf 12 = .ok (.iload_n 2, 1) := by decide +kernel
theorem dX1_worthOf_13 : decode cX1_worthOf 13 = .ok (.aload_n 0, 1) := by decide +kernel
theorem dX1_worthOf_14 : decode cX1_worthOf 14 = .ok (.getfield 9, 3) := by decide +kernel
theorem dX1_worthOf_17 : decode cX1_worthOf 17 = .ok (.iload_n 3, 1) := by decide +kernel
theorem dX1_worthOf_18 : decode cX1_worthOf 18 = .ok (.iaload, 1) := by decide +kernel
theorem dX1_worthOf_19 : decode cX1_worthOf 19 = .ok (.iload_n 1, 1) := by decide +kernel
theorem dX1_worthOf_20 : decode cX1_worthOf 20 = .ok (.if_icmp .ne 19, 3) := by decide +kernel
theorem dX1_worthOf_23 : decode cX1_worthOf 23 = .ok (.aload_n 0, 1) := by decide +kernel
theorem dX1_worthOf_24 : decode cX1_worthOf 24 = .ok (.getfield 15, 3) := by decide +kernel
theorem dX1_worthOf_27 : decode cX1_worthOf 27 = .ok (.iload_n 3, 1) := by decide +kernel
theorem dX1_worthOf_28 : decode cX1_worthOf 28 = .ok (.iaload, 1) := by decide +kernel
theorem dX1_worthOf_29 : decode cX1_worthOf 29 = .ok (.aload_n 0, 1) := by decide +kernel
theorem dX1_worthOf_30 : decode cX1_worthOf 30 = .ok (.getfield 24, 3) := by decide +kernel
theorem dX1_worthOf_33 : decode cX1_worthOf 33 = .ok (.iload_n 3, 1) := by decide +kernel
theorem dX1_worthOf_34 : decode cX1_worthOf 34 = .ok (.iaload, 1) := by decide +kernel
theorem dX1_worthOf_35 : decode cX1_worthOf 35 = .ok (.imul, 1) := by decide +kernel
theorem dX1_worthOf_36 : decode cX1_worthOf 36 = .ok (.goto 4, 3) := by decide +kernel
theorem dX1_worthOf_39 : decode cX1_worthOf 39 = .ok (.iconst 0, 1) := by decide +kernel
theorem dX1_worthOf_40 : decode cX1_worthOf 40 = .ok (.iadd, 1) := by decide +kernel
theorem dX1_worthOf_41 : decode cX1_worthOf 41 = .ok (.istore_n 2, 1) := by decide +kernel
theorem dX1_worthOf_42 : decode cX1_worthOf 42 = .ok (.iinc 3 1, 3) := by decide +kernel
theorem dX1_worthOf_45 : decode cX1_worthOf 45 = .ok (.goto (-41), 3) := by decide +kernel
theorem dX1_worthOf_48 : decode cX1_worthOf 48 = .ok (.iload_n 2, 1) := by decide +kernel
theorem dX1_worthOf_49 : decode cX1_worthOf 49 = .ok (.ireturn, 1) := by decide +kernel
theorem dX1_heldInAll_0 : decode cX1_heldInAll 0 = .ok (.iconst 0, 1) := by decide +kernel
theorem dX1_heldInAll_1 : decode cX1_heldInAll 1 = .ok (.istore_n 1, 1) := by decide +kernel
theorem dX1_heldInAll_2 : decode cX1_heldInAll 2 = .ok (.iconst 0, 1) := by decide +kernel
theorem dX1_heldInAll_3 : decode cX1_heldInAll 3 = .ok (.istore_n 2, 1) := by decide +kernel
theorem dX1_heldInAll_4 : decode cX1_heldInAll 4 = .ok (.iload_n 2, 1) := by decide +kernel
theorem dX1_heldInAll_5 : decode cX1_heldInAll 5 = .ok (.aload_n 0, 1) := by decide +kernel
theorem dX1_heldInAll_6 : decode cX1_heldInAll 6 = .ok (.getfield 35, 3) := by decide +kernel
theorem dX1_heldInAll_9 : decode cX1_heldInAll 9 = .ok (.if_icmp .ge 18, 3) := by decide +kernel
theorem dX1_heldInAll_12 : decode cX1_heldInAll 12 = .ok (.iload_n 1, 1) := by decide +kernel
theorem dX1_heldInAll_13 : decode cX1_heldInAll 13 = .ok (.aload_n 0, 1) := by decide +kernel
theorem dX1_heldInAll_14 : decode cX1_heldInAll 14 = .ok (.getfield 24, 3) := by decide +kernel
theorem dX1_heldInAll_17 : decode cX1_heldInAll 17 = .ok (.iload_n 2, 1) := by decide +kernel
theorem dX1_heldInAll_18 : decode cX1_heldInAll 18 = .ok (.iaload, 1) := by decide +kernel
theorem dX1_heldInAll_19 : decode cX1_heldInAll 19 = .ok (.iadd, 1) := by decide +kernel
theorem dX1_heldInAll_20 : decode cX1_heldInAll 20 = .ok (.istore_n 1, 1) := by decide +kernel
theorem dX1_heldInAll_21 : decode cX1_heldInAll 21 = .ok (.iinc 2 1, 3) := by decide +kernel
theorem dX1_heldInAll_24 : decode cX1_heldInAll 24 = .ok (.goto (-20), 3) := by decide +kernel
theorem dX1_heldInAll_27 : decode cX1_heldInAll 27 = .ok (.iload_n 1, 1) := by decide +kernel
theorem dX1_heldInAll_28 : decode cX1_heldInAll 28 = .ok (.ireturn, 1) := by decide +kernel
theorem dX1_alike_0 : decode cX1_alike 0 = .ok (.iconst 0, 1) := by decide +kernel
theorem dX1_alike_1 : decode cX1_alike 1 = .ok (.istore_n 3, 1) := by decide +kernel
theorem dX1_alike_2 : decode cX1_alike 2 = .ok (.iconst 0, 1) := by decide +kernel
theorem dX1_alike_3 : decode cX1_alike 3 = .ok (.istore 4, 2) := by decide +kernel
theorem dX1_alike_5 : decode cX1_alike 5 = .ok (.iload 4, 2) := by decide +kernel
theorem dX1_alike_7 : decode cX1_alike 7 = .ok (.aload_n 0, 1) := by decide +kernel
theorem dX1_alike_8 : decode cX1_alike 8 = .ok (.getfield 35, 3) := by decide +kernel
theorem dX1_alike_11 : decode cX1_alike 11 = .ok (.if_icmp .ge 58, 3) := by decide +kernel
theorem dX1_alike_14 : decode cX1_alike 14 = .ok (.aload_n 0, 1) := by decide +kernel
theorem dX1_alike_15 : decode cX1_alike 15 = .ok (.getfield 18, 3) := by decide +kernel
theorem dX1_alike_18 : decode cX1_alike 18 = .ok (.iload 4, 2) := by decide +kernel
theorem dX1_alike_20 : decode cX1_alike 20 = .ok (.iaload, 1) := by decide +kernel
theorem dX1_alike_21 : decode cX1_alike 21 = .ok (.aload_n 0, 1) := by decide +kernel
theorem dX1_alike_22 : decode cX1_alike 22 = .ok (.getfield 18, 3) := by decide +kernel
theorem dX1_alike_25 : decode cX1_alike 25 = .ok (.iload_n 1, 1) := by decide +kernel
theorem dX1_alike_26 : decode cX1_alike 26 = .ok (.iaload, 1) := by decide +kernel
theorem dX1_alike_27 : decode cX1_alike 27 = .ok (.isub, 1) := by decide +kernel
theorem dX1_alike_28 : decode cX1_alike 28 = .ok (.invokestatic 39, 3) := by decide +kernel
theorem dX1_alike_31 : decode cX1_alike 31 = .ok (.iload_n 2, 1) := by decide +kernel
theorem dX1_alike_32 : decode cX1_alike 32 = .ok (.if_icmp .gt 31, 3) := by decide +kernel
theorem dX1_alike_35 : decode cX1_alike 35 = .ok (.aload_n 0, 1) := by decide +kernel
theorem dX1_alike_36 : decode cX1_alike 36 = .ok (.getfield 21, 3) := by decide +kernel
theorem dX1_alike_39 : decode cX1_alike 39 = .ok (.iload 4, 2) := by decide +kernel
theorem dX1_alike_41 : decode cX1_alike 41 = .ok (.iaload, 1) := by decide +kernel
theorem dX1_alike_42 : decode cX1_alike 42 = .ok (.aload_n 0, 1) := by decide +kernel
theorem dX1_alike_43 : decode cX1_alike 43 = .ok (.getfield 21, 3) := by decide +kernel
theorem dX1_alike_46 : decode cX1_alike 46 = .ok (.iload_n 1, 1) := by decide +kernel
theorem dX1_alike_47 : decode cX1_alike 47 = .ok (.iaload, 1) := by decide +kernel
theorem dX1_alike_48 : decode cX1_alike 48 = .ok (.isub, 1) := by decide +kernel
theorem dX1_alike_49 : decode cX1_alike 49 = .ok (.invokestatic 39, 3) := by decide +kernel
theorem dX1_alike_52 : decode cX1_alike 52 = .ok (.iload_n 2, 1) := by decide +kernel
theorem dX1_alike_53 : decode cX1_alike 53 = .ok (.if_icmp .gt 10, 3) := by decide +kernel
theorem dX1_alike_56 : decode cX1_alike 56 = .ok (.iload_n 3, 1) := by decide +kernel
theorem dX1_alike_57 : decode cX1_alike 57 = .ok (.iconst 1, 1) := by decide +kernel
theorem dX1_alike_58 : decode cX1_alike 58 = .ok (.iload 4, 2) := by decide +kernel
theorem dX1_alike_60 : decode cX1_alike 60 = .ok (.ishl, 1) := by decide +kernel
theorem dX1_alike_61 : decode cX1_alike 61 = .ok (.ior, 1) := by decide +kernel
theorem dX1_alike_62 : decode cX1_alike 62 = .ok (.istore_n 3, 1) := by decide +kernel
theorem dX1_alike_63 : decode cX1_alike 63 = .ok (.iinc 4 1, 3) := by decide +kernel
theorem dX1_alike_66 : decode cX1_alike 66 = .ok (.goto (-61), 3) := by decide +kernel
theorem dX1_alike_69 : decode cX1_alike 69 = .ok (.iload_n 3, 1) := by decide +kernel
theorem dX1_alike_70 : decode cX1_alike 70 = .ok (.ireturn, 1) := by decide +kernel
theorem dX1_takeOut_0 : decode cX1_takeOut 0 = .ok (.iconst 0, 1) := by decide +kernel
theorem dX1_takeOut_1 : decode cX1_takeOut 1 = .ok (.istore_n 2, 1) := by decide +kernel
theorem dX1_takeOut_2 : decode cX1_takeOut 2 = .ok (.iload_n 2, 1) := by decide +kernel
theorem dX1_takeOut_3 : decode cX1_takeOut 3 = .ok (.aload_n 0, 1) := by decide +kernel
theorem dX1_takeOut_4 : decode cX1_takeOut 4 = .ok (.getfield 35, 3) := by decide +kernel
theorem dX1_takeOut_7 : decode cX1_takeOut 7 = .ok (.if_icmp .ge 27, 3) := by decide +kernel
theorem dX1_takeOut_10 : decode cX1_takeOut 10 = .ok (.iload_n 2, 1) := by decide +kernel
theorem dX1_takeOut_11 : decode cX1_takeOut 11 = .ok (.aload_n 1, 1) := by decide +kernel
theorem dX1_takeOut_12 : decode cX1_takeOut 12 = .ok (.arraylength, 1) := by decide +kernel
theorem dX1_takeOut_13 : decode cX1_takeOut 13 = .ok (.if_icmp .ge 21, 3) := by decide +kernel
theorem dX1_takeOut_16 : decode cX1_takeOut 16 = .ok (.aload_n 0, 1) := by decide +kernel
theorem dX1_takeOut_17 : decode cX1_takeOut 17 = .ok (.getfield 24, 3) := by decide +kernel
theorem dX1_takeOut_20 : decode cX1_takeOut 20 = .ok (.iload_n 2, 1) := by decide +kernel
theorem dX1_takeOut_21 : decode cX1_takeOut 21 = .ok (.dup2, 1) := by decide +kernel
theorem dX1_takeOut_22 : decode cX1_takeOut 22 = .ok (.iaload, 1) := by decide +kernel
theorem dX1_takeOut_23 : decode cX1_takeOut 23 = .ok (.aload_n 1, 1) := by decide +kernel
theorem dX1_takeOut_24 : decode cX1_takeOut 24 = .ok (.iload_n 2, 1) := by decide +kernel
theorem dX1_takeOut_25 : decode cX1_takeOut 25 = .ok (.iaload, 1) := by decide +kernel
theorem dX1_takeOut_26 : decode cX1_takeOut 26 = .ok (.isub, 1) := by decide +kernel
theorem dX1_takeOut_27 : decode cX1_takeOut 27 = .ok (.iastore, 1) := by decide +kernel
theorem dX1_takeOut_28 : decode cX1_takeOut 28 = .ok (.iinc 2 1, 3) := by decide +kernel
theorem dX1_takeOut_31 : decode cX1_takeOut 31 = .ok (.goto (-29), 3) := by decide +kernel
theorem dX1_takeOut_34 : decode cX1_takeOut 34 = .ok (.return_, 1) := by decide +kernel
theorem dX1_emptyOut_0 : decode cX1_emptyOut 0 = .ok (.iconst 0, 1) := by decide +kernel
theorem dX1_emptyOut_1 : decode cX1_emptyOut 1 = .ok (.istore_n 2, 1) := by decide +kernel
theorem dX1_emptyOut_2 : decode cX1_emptyOut 2 = .ok (.iconst 0, 1) := by decide +kernel
theorem dX1_emptyOut_3 : decode cX1_emptyOut 3 = .ok (.istore_n 3, 1) := by decide +kernel
theorem dX1_emptyOut_4 : decode cX1_emptyOut 4 = .ok (.iload_n 3, 1) := by decide +kernel
theorem dX1_emptyOut_5 : decode cX1_emptyOut 5 = .ok (.aload_n 0, 1) := by decide +kernel
theorem dX1_emptyOut_6 : decode cX1_emptyOut 6 = .ok (.getfield 35, 3) := by decide +kernel
theorem dX1_emptyOut_9 : decode cX1_emptyOut 9 = .ok (.if_icmp .ge 35, 3) := by decide +kernel
theorem dX1_emptyOut_12 : decode cX1_emptyOut 12 = .ok (.aload_n 0, 1) := by decide +kernel
theorem dX1_emptyOut_13 : decode cX1_emptyOut 13 = .ok (.getfield 9, 3) := by decide +kernel
theorem dX1_emptyOut_16 : decode cX1_emptyOut 16 = .ok (.iload_n 3, 1) := by decide +kernel
theorem dX1_emptyOut_17 : decode cX1_emptyOut 17 = .ok (.iaload, 1) := by decide +kernel
theorem dX1_emptyOut_18 : decode cX1_emptyOut 18 = .ok (.iload_n 1, 1) := by decide +kernel
theorem dX1_emptyOut_19 : decode cX1_emptyOut 19 = .ok (.if_icmp .ne 19, 3) := by decide +kernel
theorem dX1_emptyOut_22 : decode cX1_emptyOut 22 = .ok (.iload_n 2, 1) := by decide +kernel
theorem dX1_emptyOut_23 : decode cX1_emptyOut 23 = .ok (.aload_n 0, 1) := by decide +kernel
theorem dX1_emptyOut_24 : decode cX1_emptyOut 24 = .ok (.getfield 24, 3) := by decide +kernel
theorem dX1_emptyOut_27 : decode cX1_emptyOut 27 = .ok (.iload_n 3, 1) := by decide +kernel
theorem dX1_emptyOut_28 : decode cX1_emptyOut 28 = .ok (.iaload, 1) := by decide +kernel
theorem dX1_emptyOut_29 : decode cX1_emptyOut 29 = .ok (.iadd, 1) := by decide +kernel
theorem dX1_emptyOut_30 : decode cX1_emptyOut 30 = .ok (.istore_n 2, 1) := by decide +kernel
theorem dX1_emptyOut_31 : decode cX1_emptyOut 31 = .ok (.aload_n 0, 1) := by decide +kernel
theorem dX1_emptyOut_32 : decode cX1_emptyOut 32 = .ok (.getfield 24, 3) := by decide +kernel
theorem dX1_emptyOut_35 : decode cX1_emptyOut 35 = .ok (.iload_n 3, 1) := by decide +kernel
theorem dX1_emptyOut_36 : decode cX1_emptyOut 36 = .ok (.iconst 0, 1) := by decide +kernel
theorem dX1_emptyOut_37 : decode cX1_emptyOut 37 = .ok (.iastore, 1) := by decide +kernel
theorem dX1_emptyOut_38 : decode cX1_emptyOut 38 = .ok (.iinc 3 1, 3) := by decide +kernel
theorem dX1_emptyOut_41 : decode cX1_emptyOut 41 = .ok (.goto (-37), 3) := by decide +kernel
theorem dX1_emptyOut_44 : decode cX1_emptyOut 44 = .ok (.iload_n 2, 1) := by decide +kernel
theorem dX1_emptyOut_45 : decode cX1_emptyOut 45 = .ok (.ireturn, 1) := by decide +kernel
set_option maxRecDepth 20000 in
theorem ggX1_bringBack_X1_greatestWithin : GoodIn wsX1_bringBack wsX1_greatestWithin := goodIn_r _ [7, 8, 9, 2, 1, 10, 11, 12, 13, 14, 15] rfl (by decide +kernel)
set_option maxRecDepth 20000 in
theorem gX1_bringBack_X1_greatestWithin : GoodIn wsX1_bringBack (wsV RX1 45 RX1 yX1_greatestWithin wsX1_greatestWithin) := goodIn_app (goodIn_r _ [3, 4, 5, 6] rfl (by decide +kernel)) ggX1_bringBack_X1_greatestWithin
theorem dX1_bringBack_0 : decode cX1_bringBack 0 = .ok (.iconst 0, 1) := by decide +kernel
theorem dX1_bringBack_1 : decode cX1_bringBack 1 = .ok (.istore_n 3, 1) := by decide +kernel
theorem dX1_bringBack_2 : decode cX1_bringBack 2 = .ok (.iconst 0, 1) := by decide +kernel
theorem dX1_bringBack_3 : decode cX1_bringBack 3 = .ok (.istore 4, 2) := by decide +kernel
theorem dX1_bringBack_5 : decode cX1_bringBack 5 = .ok (.iload 4, 2) := by decide +kernel
theorem dX1_bringBack_7 : decode cX1_bringBack 7 = .ok (.bipush 48, 2) := by decide +kernel
theorem dX1_bringBack_9 : decode cX1_bringBack 9 = .ok (.if_icmp .ge 48, 3) := by decide +kernel
theorem dX1_bringBack_12 : decode cX1_bringBack 12 = .ok (.aload_n 0, 1) := by decide +kernel
theorem dX1_bringBack_13 : decode cX1_bringBack 13 = .ok (.iload_n 1, 1) := by decide +kernel
theorem dX1_bringBack_14 : decode cX1_bringBack 14 = .ok (.iload_n 2, 1) := by decide +kernel
theorem dX1_bringBack_15 : decode cX1_bringBack 15 = .ok (.iload_n 3, 1) := by decide +kernel
theorem dX1_bringBack_16 : decode cX1_bringBack 16 = .ok (.isub, 1) := by decide +kernel
theorem dX1_bringBack_17 : decode cX1_bringBack 17 = .ok (.invokevirtual 45, 3) := by decide +kernel
theorem dX1_bringBack_20 : decode cX1_bringBack 20 = .ok (.istore 5, 2) := by decide +kernel
theorem dX1_bringBack_22 : decode cX1_bringBack 22 = .ok (.iload 5, 2) := by decide +kernel
theorem dX1_bringBack_24 : decode cX1_bringBack 24 = .ok (.ifCond .ge 6, 3) := by decide +kernel
theorem dX1_bringBack_27 : decode cX1_bringBack 27 = .ok (.goto 30, 3) := by decide +kernel
theorem dX1_bringBack_30 : decode cX1_bringBack 30 = .ok (.aload_n 0, 1) := by decide +kernel
theorem dX1_bringBack_31 : decode cX1_bringBack 31 = .ok (.getfield 24, 3) := by decide +kernel
theorem dX1_bringBack_34 : decode cX1_bringBack 34 = .ok (.iload 5, 2) := by decide +kernel
theorem dX1_bringBack_36 : decode cX1_bringBack 36 = .ok (.dup2, 1) := by decide +kernel
theorem dX1_bringBack_37 : decode cX1_bringBack 37 = .ok (.iaload, 1) := by decide +kernel
theorem dX1_bringBack_38 : decode cX1_bringBack 38 = .ok (.iconst 1, 1) := by decide +kernel
theorem dX1_bringBack_39 : decode cX1_bringBack 39 = .ok (.iadd, 1) := by decide +kernel
theorem dX1_bringBack_40 : decode cX1_bringBack 40 = .ok (.iastore, 1) := by decide +kernel
theorem dX1_bringBack_41 : decode cX1_bringBack 41 = .ok (.iload_n 3, 1) := by decide +kernel
theorem dX1_bringBack_42 : decode cX1_bringBack 42 = .ok (.aload_n 0, 1) := by decide +kernel
theorem dX1_bringBack_43 : decode cX1_bringBack 43 = .ok (.getfield 15, 3) := by decide +kernel
theorem dX1_bringBack_46 : decode cX1_bringBack 46 = .ok (.iload 5, 2) := by decide +kernel
theorem dX1_bringBack_48 : decode cX1_bringBack 48 = .ok (.iaload, 1) := by decide +kernel
theorem dX1_bringBack_49 : decode cX1_bringBack 49 = .ok (.iadd, 1) := by decide +kernel
theorem dX1_bringBack_50 : decode cX1_bringBack 50 = .ok (.istore_n 3, 1) := by decide +kernel
theorem dX1_bringBack_51 : decode cX1_bringBack 51 = .ok (.iinc 4 1, 3) := by decide +kernel
theorem dX1_bringBack_54 : decode cX1_bringBack 54 = .ok (.goto (-49), 3) := by decide +kernel
theorem dX1_bringBack_57 : decode cX1_bringBack 57 = .ok (.iload_n 3, 1) := by decide +kernel
theorem dX1_bringBack_58 : decode cX1_bringBack 58 = .ok (.ireturn, 1) := by decide +kernel
theorem dX1_greatestWithin_0 : decode cX1_greatestWithin 0 = .ok (.iconst (-1), 1) := by decide +kernel
theorem dX1_greatestWithin_1 : decode cX1_greatestWithin 1 = .ok (.istore_n 3, 1) := by decide +kernel
theorem dX1_greatestWithin_2 : decode cX1_greatestWithin 2 = .ok (.iconst 0, 1) := by decide +kernel
theorem dX1_greatestWithin_3 : decode cX1_greatestWithin 3 = .ok (.istore 4, 2) := by decide +kernel
theorem dX1_greatestWithin_5 : decode cX1_greatestWithin 5 = .ok (.iload 4, 2) := by decide +kernel
theorem dX1_greatestWithin_7 : decode cX1_greatestWithin 7 = .ok (.aload_n 0, 1) := by decide +kernel
theorem dX1_greatestWithin_8 : decode cX1_greatestWithin 8 = .ok (.getfield 35, 3) := by decide +kernel
theorem dX1_greatestWithin_11 : decode cX1_greatestWithin 11 = .ok (.if_icmp .ge 78, 3) := by decide +kernel
theorem dX1_greatestWithin_14 : decode cX1_greatestWithin 14 = .ok (.aload_n 0, 1) := by decide +kernel
theorem dX1_greatestWithin_15 : decode cX1_greatestWithin 15 = .ok (.getfield 9, 3) := by decide +kernel
theorem dX1_greatestWithin_18 : decode cX1_greatestWithin 18 = .ok (.iload 4, 2) := by decide +kernel
theorem dX1_greatestWithin_20 : decode cX1_greatestWithin 20 = .ok (.iaload, 1) := by decide +kernel
theorem dX1_greatestWithin_21 : decode cX1_greatestWithin 21 = .ok (.iload_n 1, 1) := by decide +kernel
theorem dX1_greatestWithin_22 : decode cX1_greatestWithin 22 = .ok (.if_icmp .ne 30, 3) := by decide +kernel
theorem dX1_greatestWithin_25 : decode cX1_greatestWithin 25 = .ok (.aload_n 0, 1) := by decide +kernel
theorem dX1_greatestWithin_26 : decode cX1_greatestWithin 26 = .ok (.getfield 15, 3) := by decide +kernel
theorem dX1_greatestWithin_29 : decode cX1_greatestWithin 29 = .ok (.iload 4, 2) := by decide +kernel
theorem dX1_greatestWithin_31 : decode cX1_greatestWithin 31 = .ok (.iaload, 1) := by decide +kernel
theorem dX1_greatestWithin_32 : decode cX1_greatestWithin 32 = .ok (.iload_n 2, 1) := by decide +kernel
theorem dX1_greatestWithin_33 : decode cX1_greatestWithin 33 = .ok (.if_icmp .gt 19, 3) := by decide +kernel
theorem dX1_greatestWithin_36 : decode cX1_greatestWithin 36 = .ok (.aload_n 0, 1) := by decide +kernel
theorem dX1_greatestWithin_37 : decode cX1_greatestWithin 37 = .ok (.getfield 24, 3) := by decide +kernel
theorem dX1_greatestWithin_40 : decode cX1_greatestWithin 40 = .ok (.iload 4, 2) := by decide +kernel
theorem dX1_greatestWithin_42 : decode cX1_greatestWithin 42 = .ok (.iaload, 1) := by decide +kernel
theorem dX1_greatestWithin_43 : decode cX1_greatestWithin 43 = .ok (.bipush 6, 2) := by decide +kernel
theorem dX1_greatestWithin_45 : decode cX1_greatestWithin 45 = .ok (.if_icmp .ge 7, 3) := by decide +kernel
theorem dX1_greatestWithin_48 : decode cX1_greatestWithin 48 = .ok (.iconst 1, 1) := by decide +kernel
theorem dX1_greatestWithin_49 : decode cX1_greatestWithin 49 = .ok (.goto 4, 3) := by decide +kernel
theorem dX1_greatestWithin_52 : decode cX1_greatestWithin 52 = .ok (.iconst 0, 1) := by decide +kernel
theorem dX1_greatestWithin_53 : decode cX1_greatestWithin 53 = .ok (.istore 5, 2) := by decide +kernel
theorem dX1_greatestWithin_55 : decode cX1_greatestWithin 55 = .ok (.iload 5, 2) := by decide +kernel
theorem dX1_greatestWithin_57 : decode cX1_greatestWithin 57 = .ok (.ifCond .eq 26, 3) := by decide +kernel
theorem dX1_greatestWithin_60 : decode cX1_greatestWithin 60 = .ok (.iload_n 3, 1) := by decide +kernel
theorem dX1_greatestWithin_61 : decode cX1_greatestWithin 61 = .ok (.ifCond .lt 19, 3) := by decide +kernel
theorem dX1_greatestWithin_64 : decode cX1_greatestWithin 64 = .ok (.aload_n 0, 1) := by decide +kernel
theorem dX1_greatestWithin_65 : decode cX1_greatestWithin 65 = .ok (.getfield 15, 3) := by decide +kernel
theorem dX1_greatestWithin_68 : decode cX1_greatestWithin 68 = .ok (.iload 4, 2) := by decide +kernel
theorem dX1_greatestWithin_70 : decode cX1_greatestWithin 70 = .ok (.iaload, 1) := by decide +kernel
theorem dX1_greatestWithin_71 : decode cX1_greatestWithin 71 = .ok (.aload_n 0, 1) := by decide +kernel
theorem dX1_greatestWithin_72 : decode cX1_greatestWithin 72 = .ok (.getfield 15, 3) := by decide +kernel
theorem dX1_greatestWithin_75 : decode cX1_greatestWithin 75 = .ok (.iload_n 3, 1) := by decide +kernel
theorem dX1_greatestWithin_76 : decode cX1_greatestWithin 76 = .ok (.iaload, 1) := by decide +kernel
theorem dX1_greatestWithin_77 : decode cX1_greatestWithin 77 = .ok (.if_icmp .le 6, 3) := by decide +kernel
theorem dX1_greatestWithin_80 : decode cX1_greatestWithin 80 = .ok (.iload 4, 2) := by decide +kernel
theorem dX1_greatestWithin_82 : decode cX1_greatestWithin 82 = .ok (.istore_n 3, 1) := by decide +kernel
theorem dX1_greatestWithin_83 : decode cX1_greatestWithin 83 = .ok (.iinc 4 1, 3) := by decide +kernel
theorem dX1_greatestWithin_86 : decode cX1_greatestWithin 86 = .ok (.goto (-81), 3) := by decide +kernel
theorem dX1_greatestWithin_89 : decode cX1_greatestWithin 89 = .ok (.iload_n 3, 1) := by decide +kernel
theorem dX1_greatestWithin_90 : decode cX1_greatestWithin 90 = .ok (.ireturn, 1) := by decide +kernel
theorem dX2_init_0 : decode cX2_init 0 = .ok (.aload_n 0, 1) := by decide +kernel
theorem dX2_init_1 : decode cX2_init 1 = .ok (.invokespecial 3, 3) := by decide +kernel
theorem dX2_init_4 : decode cX2_init 4 = .ok (.aload_n 0, 1) := by decide +kernel
theorem dX2_init_5 : decode cX2_init 5 = .ok (.bipush 50, 2) := by decide +kernel
theorem dX2_init_7 : decode cX2_init 7 = .ok (.newarray .int, 2) := by decide +kernel
theorem dX2_init_9 : decode cX2_init 9 = .ok (.putfield 9, 3) := by decide +kernel
theorem dX2_init_12 : decode cX2_init 12 = .ok (.aload_n 0, 1) := by decide +kernel
theorem dX2_init_13 : decode cX2_init 13 = .ok (.bipush 24, 2) := by decide +kernel
theorem dX2_init_15 : decode cX2_init 15 = .ok (.newarray .int, 2) := by decide +kernel
theorem dX2_init_17 : decode cX2_init 17 = .ok (.putfield 15, 3) := by decide +kernel
theorem dX2_init_20 : decode cX2_init 20 = .ok (.return_, 1) := by decide +kernel
theorem dX2_knows_0 : decode cX2_knows 0 = .ok (.iload_n 1, 1) := by decide +kernel
theorem dX2_knows_1 : decode cX2_knows 1 = .ok (.ifCond .lt 15, 3) := by decide +kernel
theorem dX2_knows_4 : decode cX2_knows 4 = .ok (.iload_n 1, 1) := by decide +kernel
theorem dX2_knows_5 : decode cX2_knows 5 = .ok (.aload_n 0, 1) := by decide +kernel
theorem dX2_knows_6 : decode cX2_knows 6 = .ok (.getfield 18, 3) := by decide +kernel
theorem dX2_knows_9 : decode cX2_knows 9 = .ok (.if_icmp .ge 7, 3) := by decide +kernel
theorem dX2_knows_12 : decode cX2_knows 12 = .ok (.iconst 1, 1) := by decide +kernel
theorem dX2_knows_13 : decode cX2_knows 13 = .ok (.goto 4, 3) := by decide +kernel
theorem dX2_knows_16 : decode cX2_knows 16 = .ok (.iconst 0, 1) := by decide +kernel
theorem dX2_knows_17 : decode cX2_knows 17 = .ok (.ireturn, 1) := by decide +kernel
theorem dX2_add_0 : decode cX2_add 0 = .ok (.aload_n 0, 1) := by decide +kernel
theorem dX2_add_1 : decode cX2_add 1 = .ok (.getfield 18, 3) := by decide +kernel
theorem dX2_add_4 : decode cX2_add 4 = .ok (.bipush 50, 2) := by decide +kernel
theorem dX2_add_6 : decode cX2_add 6 = .ok (.if_icmp .lt 6, 3) := by decide +kernel
theorem dX2_add_9 : decode cX2_add 9 = .ok (.bipush (-3), 2) := by decide +kernel
theorem dX2_add_11 : decode cX2_add 11 = .ok (.ireturn, 1) := by decide +kernel
theorem dX2_add_12 : decode cX2_add 12 = .ok (.aload_n 0, 1) := by decide +kernel
theorem dX2_add_13 : decode cX2_add 13 = .ok (.getfield 9, 3) := by decide +kernel
theorem dX2_add_16 : decode cX2_add 16 = .ok (.aload_n 0, 1) := by decide +kernel
theorem dX2_add_17 : decode cX2_add 17 = .ok (.getfield 18, 3) := by decide +kernel
theorem dX2_add_20 : decode cX2_add 20 = .ok (.iload_n 1, 1) := by decide +kernel
theorem dX2_add_21 : decode cX2_add 21 = .ok (.iastore, 1) := by decide +kernel
theorem dX2_add_22 : decode cX2_add 22 = .ok (.aload_n 0, 1) := by decide +kernel
theorem dX2_add_23 : decode cX2_add 23 = .ok (.dup, 1) := by decide +kernel
theorem dX2_add_24 : decode cX2_add 24 = .ok (.getfield 18, 3) := by decide +kernel
theorem dX2_add_27 : decode cX2_add 27 = .ok (.iconst 1, 1) := by decide +kernel
theorem dX2_add_28 : decode cX2_add 28 = .ok (.iadd, 1) := by decide +kernel
theorem dX2_add_29 : decode cX2_add 29 = .ok (.putfield 18, 3) := by decide +kernel
theorem dX2_add_32 : decode cX2_add 32 = .ok (.aload_n 0, 1) := by decide +kernel
theorem dX2_add_33 : decode cX2_add 33 = .ok (.getfield 18, 3) := by decide +kernel
theorem dX2_add_36 : decode cX2_add 36 = .ok (.iconst 1, 1) := by decide +kernel
theorem dX2_add_37 : decode cX2_add 37 = .ok (.isub, 1) := by decide +kernel
theorem dX2_add_38 : decode cX2_add 38 = .ok (.ireturn, 1) := by decide +kernel
set_option maxRecDepth 20000 in
theorem ggX2_kindOf_X2_knows : GoodIn wsX2_kindOf wsX2_knows := goodIn_r _ [6, 7, 8, 9, 10, 11, 12] rfl (by decide +kernel)
set_option maxRecDepth 20000 in
theorem gX2_kindOf_X2_knows : GoodIn wsX2_kindOf (wsV RX2 22 RX2 yX2_knows wsX2_knows) := goodIn_app (goodIn_r _ [2, 3, 4, 5] rfl (by decide +kernel)) ggX2_kindOf_X2_knows
theorem dX2_kindOf_0 : decode cX2_kindOf 0 = .ok (.aload_n 0, 1) := by decide +kernel
theorem dX2_kindOf_1 : decode cX2_kindOf 1 = .ok (.iload_n 1, 1) := by decide +kernel
theorem dX2_kindOf_2 : decode cX2_kindOf 2 = .ok (.invokevirtual 22, 3) := by decide +kernel
theorem dX2_kindOf_5 : decode cX2_kindOf 5 = .ok (.ifCond .eq 12, 3) := by decide +kernel
theorem dX2_kindOf_8 : decode cX2_kindOf 8 = .ok (.aload_n 0, 1) := by decide +kernel
theorem dX2_kindOf_9 : decode cX2_kindOf 9 = .ok (.getfield 9, 3) := by decide +kernel
theorem dX2_kindOf_12 : decode cX2_kindOf 12 = .ok (.iload_n 1, 1) := by decide +kernel
theorem dX2_kindOf_13 : decode cX2_kindOf 13 = .ok (.iaload, 1) := by decide +kernel
theorem dX2_kindOf_14 : decode cX2_kindOf 14 = .ok (.goto 4, 3) := by decide +kernel
theorem dX2_kindOf_17 : decode cX2_kindOf 17 = .ok (.iconst (-1), 1) := by decide +kernel
theorem dX2_kindOf_18 : decode cX2_kindOf 18 = .ok (.ireturn, 1) := by decide +kernel
theorem dX2_isUnder_0 : decode cX2_isUnder 0 = .ok (.iload_n 0, 1) := by decide +kernel
theorem dX2_isUnder_1 : decode cX2_isUnder 1 = .ok (.istore_n 2, 1) := by decide +kernel
theorem dX2_isUnder_2 : decode cX2_isUnder 2 = .ok (.iconst 0, 1) := by decide +kernel
theorem dX2_isUnder_3 : decode cX2_isUnder 3 = .ok (.istore_n 3, 1) := by decide +kernel
theorem dX2_isUnder_4 : decode cX2_isUnder 4 = .ok (.iload_n 3, 1) := by decide +kernel
theorem dX2_isUnder_5 : decode cX2_isUnder 5 = .ok (.bipush 8, 2) := by decide +kernel
theorem dX2_isUnder_7 : decode cX2_isUnder 7 = .ok (.if_icmp .ge 32, 3) := by decide +kernel
theorem dX2_isUnder_10 : decode cX2_isUnder 10 = .ok (.iload_n 2, 1) := by decide +kernel
theorem dX2_isUnder_11 : decode cX2_isUnder 11 = .ok (.ifCond .lt 28, 3) := by decide +kernel
theorem dX2_isUnder_14 : decode cX2_isUnder 14 = .ok (.iload_n 2, 1) := by decide +kernel
theorem dX2_isUnder_15 : decode cX2_isUnder 15 = .ok (.bipush 8, 2) := by decide +kernel
theorem dX2_isUnder_17 : decode cX2_isUnder 17 = .ok (.if_icmp .ge 22, 3) := by decide +kernel
theorem dX2_isUnder_20 : decode cX2_isUnder 20 = .ok (.iload_n 2, 1) := by decide +kernel
theorem dX2_isUnder_21 : decode cX2_isUnder 21 = .ok (.iload_n 1, 1) := by decide +kernel
theorem dX2_isUnder_22 : decode cX2_isUnder 22 = .ok (.if_icmp .ne 5, 3) := by decide +kernel
theorem dX2_isUnder_25 : decode cX2_isUnder 25 = .ok (.iconst 1, 1) := by decide +kernel
theorem dX2_isUnder_26 : decode cX2_isUnder 26 = .ok (.ireturn, 1) := by decide +kernel
theorem dX2_isUnder_27 : decode cX2_isUnder 27 = .ok (.getstatic 26, 3) := by decide +kernel
theorem dX2_isUnder_30 : decode cX2_isUnder 30 = .ok (.iload_n 2, 1) := by decide +kernel
theorem dX2_isUnder_31 : decode cX2_isUnder 31 = .ok (.iaload, 1) := by decide +kernel
theorem dX2_isUnder_32 : decode cX2_isUnder 32 = .ok (.istore_n 2, 1) := by decide +kernel
theorem dX2_isUnder_33 : decode cX2_isUnder 33 = .ok (.iinc 3 1, 3) := by decide +kernel
theorem dX2_isUnder_36 : decode cX2_isUnder 36 = .ok (.goto (-32), 3) := by decide +kernel
theorem dX2_isUnder_39 : decode cX2_isUnder 39 = .ok (.iconst 0, 1) := by decide +kernel
theorem dX2_isUnder_40 : decode cX2_isUnder 40 = .ok (.ireturn, 1) := by decide +kernel
set_option maxRecDepth 20000 in
theorem ggX2_begin_X2_knows : GoodIn wsX2_begin wsX2_knows := goodIn_r _ [7, 8, 36, 37, 38, 39, 40] rfl (by decide +kernel)
set_option maxRecDepth 20000 in
theorem gX2_begin_X2_knows : GoodIn wsX2_begin (wsV RX2 22 RX2 yX2_knows wsX2_knows) := goodIn_app (goodIn_r _ [3, 4, 5, 6] rfl (by decide +kernel)) ggX2_begin_X2_knows
set_option maxRecDepth 20000 in
theorem ggX2_begin_X11_within : GoodIn wsX2_begin wsX11_within := goodIn_r _ [11] rfl (by decide +kernel)
set_option maxRecDepth 20000 in
theorem gX2_begin_X11_within_n32 : GoodIn wsX2_begin (wsX11_within) := ggX2_begin_X11_within
set_option maxRecDepth 20000 in
theorem ggX2_begin_X2_own : GoodIn wsX2_begin wsX2_own := goodIn_r _ [15, 2, 16, 17, 18, 6, 19, 20, 3, 4, 5, 7, 8, 21, 22, 23, 24, 25, 26, 27, 28, 29, 30, 1, 31, 32, 33, 34, 35, 12, 13, 14, 36, 37, 38, 39, 40] rfl (by decide +kernel)
set_option maxRecDepth 20000 in
theorem gX2_begin_X2_own : GoodIn wsX2_begin (wsV RX2 39 RX2 yX2_own wsX2_own) := goodIn_app (goodIn_r _ [12, 13, 14, 6] rfl (by decide +kernel)) ggX2_begin_X2_own
theorem dX2_begin_0 : decode cX2_begin 0 = .ok (.aload_n 0, 1) := by decide +kernel
theorem dX2_begin_1 : decode cX2_begin 1 = .ok (.iconst 0, 1) := by decide +kernel
theorem dX2_begin_2 : decode cX2_begin 2 = .ok (.putfield 29, 3) := by decide +kernel
theorem dX2_begin_5 : decode cX2_begin 5 = .ok (.aload_n 0, 1) := by decide +kernel
theorem dX2_begin_6 : decode cX2_begin 6 = .ok (.iload_n 1, 1) := by decide +kernel
theorem dX2_begin_7 : decode cX2_begin 7 = .ok (.invokevirtual 22, 3) := by decide +kernel
theorem dX2_begin_10 : decode cX2_begin 10 = .ok (.ifCond .eq 12, 3) := by decide +kernel
theorem dX2_begin_13 : decode cX2_begin 13 = .ok (.iload_n 2, 1) := by decide +kernel
theorem dX2_begin_14 : decode cX2_begin 14 = .ok (.iconst 0, 1) := by decide +kernel
theorem dX2_begin_15 : decode cX2_begin 15 = .ok (.iconst 3, 1) := by decide +kernel
theorem dX2_begin_16 : decode cX2_begin 16 = .ok (.invokestatic 32, 3) := by decide +kernel
theorem dX2_begin_19 : decode cX2_begin 19 = .ok (.ifCond .ne 5, 3) := by decide +kernel
theorem dX2_begin_22 : decode cX2_begin 22 = .ok (.iconst 0, 1) := by decide +kernel
theorem dX2_begin_23 : decode cX2_begin 23 = .ok (.ireturn, 1) := by decide +kernel
theorem dX2_begin_24 : decode cX2_begin 24 = .ok (.aload_n 0, 1) := by decide +kernel
theorem dX2_begin_25 : decode cX2_begin 25 = .ok (.iload_n 1, 1) := by decide +kernel
theorem dX2_begin_26 : decode cX2_begin 26 = .ok (.putfield 36, 3) := by decide +kernel
theorem dX2_begin_29 : decode cX2_begin 29 = .ok (.aload_n 0, 1) := by decide +kernel
theorem dX2_begin_30 : decode cX2_begin 30 = .ok (.iload_n 2, 1) := by decide +kernel
theorem dX2_begin_31 : decode cX2_begin 31 = .ok (.iload_n 3, 1) := by decide +kernel
theorem dX2_begin_32 : decode cX2_begin 32 = .ok (.iconst 0, 1) := by decide +kernel
theorem dX2_begin_33 : decode cX2_begin 33 = .ok (.invokevirtual 39, 3) := by decide +kernel
theorem dX2_begin_36 : decode cX2_begin 36 = .ok (.ireturn, 1) := by decide +kernel
set_option maxRecDepth 20000 in
theorem ggX2_own_X2_kindOf : GoodIn wsX2_own wsX2_kindOf := goodIn_r _ [6, 7, 8, 9, 10, 5, 11, 12, 32, 33, 34, 35, 36] rfl (by decide +kernel)
set_option maxRecDepth 20000 in
theorem gX2_own_X2_kindOf : GoodIn wsX2_own (wsV RX2 43 RX2 yX2_kindOf wsX2_kindOf) := goodIn_app (goodIn_r _ [2, 3, 4, 5] rfl (by decide +kernel)) ggX2_own_X2_kindOf
set_option maxRecDepth 20000 in
theorem ggX2_own_X2_from : GoodIn wsX2_own wsX2_from := goodIn_r _ [16, 17, 18, 19, 20, 21, 5, 22, 23, 24, 25, 26, 27, 0, 1, 2, 3, 4, 6, 7, 8, 9, 10, 11, 12, 13, 14, 15, 28, 29, 30, 31, 32, 33, 34, 35, 36] rfl (by decide +kernel)
set_option maxRecDepth 20000 in
theorem gX2_own_X2_from : GoodIn wsX2_own (wsV RX2 47 RX2 yX2_from wsX2_from) := goodIn_app (goodIn_r _ [13, 14, 15, 5] rfl (by decide +kernel)) ggX2_own_X2_from
theorem dX2_own_0 : decode cX2_own 0 = .ok (.aload_n 0, 1) := by decide +kernel
theorem dX2_own_1 : decode cX2_own 1 = .ok (.aload_n 0, 1) := by decide +kernel
theorem dX2_own_2 : decode cX2_own 2 = .ok (.aload_n 0, 1) := by decide +kernel
theorem dX2_own_3 : decode cX2_own 3 = .ok (.getfield 36, 3) := by decide +kernel
theorem dX2_own_6 : decode cX2_own 6 = .ok (.invokevirtual 43, 3) := by decide +kernel
theorem dX2_own_9 : decode cX2_own 9 = .ok (.iload_n 1, 1) := by decide +kernel
theorem dX2_own_10 : decode cX2_own 10 = .ok (.iload_n 2, 1) := by decide +kernel
theorem dX2_own_11 : decode cX2_own 11 = .ok (.iload_n 3, 1) := by decide +kernel
theorem dX2_own_12 : decode cX2_own 12 = .ok (.invokevirtual 47, 3) := by decide +kernel
theorem dX2_own_15 : decode cX2_own 15 = .ok (.ireturn, 1) := by decide +kernel
set_option maxRecDepth 20000 in
theorem ggX2_from_X2_note : GoodIn wsX2_from wsX2_note := goodIn_r _ [7, 8, 9, 32, 33, 34, 35, 36] rfl (by decide +kernel)
set_option maxRecDepth 20000 in
theorem gX2_from_X2_note : GoodIn wsX2_from (wsV RX2 54 RX2 yX2_note wsX2_note) := goodIn_app (goodIn_r _ [3, 4, 5, 6] rfl (by decide +kernel)) ggX2_from_X2_note
set_option maxRecDepth 20000 in
theorem ggX2_from_X2_run : GoodIn wsX2_from wsX2_run := goodIn_r _ [28, 14, 29, 30, 31, 6, 25, 26, 27, 0, 1, 2, 3, 4, 5, 7, 8, 9, 10, 11, 12, 13, 15, 16, 17, 18, 19, 20, 21, 22, 23, 24, 32, 33, 34, 35, 36] rfl (by decide +kernel)
set_option maxRecDepth 20000 in
theorem gX2_from_X2_run : GoodIn wsX2_from (wsV RX2 58 RX2 yX2_run wsX2_run) := goodIn_app (goodIn_r _ [10, 11, 12, 6] rfl (by decide +kernel)) ggX2_from_X2_run
theorem dX2_from_0 : decode cX2_from 0 = .ok (.iload_n 1, 1) := by decide +kernel
theorem dX2_from_1 : decode cX2_from 1 = .ok (.istore 5, 2) := by decide +kernel
theorem dX2_from_3 : decode cX2_from 3 = .ok (.iconst 0, 1) := by decide +kernel
theorem dX2_from_4 : decode cX2_from 4 = .ok (.istore 6, 2) := by decide +kernel
theorem dX2_from_6 : decode cX2_from 6 = .ok (.iload 6, 2) := by decide +kernel
theorem dX2_from_8 : decode cX2_from 8 = .ok (.bipush 8, 2) := by decide +kernel
theorem dX2_from_10 : decode cX2_from 10 = .ok (.if_icmp .ge 77, 3) := by decide +kernel
theorem dX2_from_13 : decode cX2_from 13 = .ok (.iload 5, 2) := by decide +kernel
theorem dX2_from_15 : decode cX2_from 15 = .ok (.ifCond .lt 72, 3) := by decide +kernel
theorem dX2_from_18 : decode cX2_from 18 = .ok (.iload 5, 2) := by decide +kernel
theorem dX2_from_20 : decode cX2_from 20 = .ok (.bipush 8, 2) := by decide +kernel
theorem dX2_from_22 : decode cX2_from 22 = .ok (.if_icmp .ge 65, 3) := by decide +kernel
theorem dX2_from_25 : decode cX2_from 25 = .ok (.iload 4, 2) := by decide +kernel
theorem dX2_from_27 : decode cX2_from 27 = .ok (.bipush 40, 2) := by decide +kernel
theorem dX2_from_29 : decode cX2_from 29 = .ok (.if_icmp .ge 58, 3) := by decide +kernel
theorem dX2_from_32 : decode cX2_from 32 = .ok (.getstatic 51, 3) := by decide +kernel
theorem dX2_from_35 : decode cX2_from 35 = .ok (.iload 5, 2) := by decide +kernel
theorem dX2_from_37 : decode cX2_from 37 = .ok (.iconst 4, 1) := by decide +kernel
theorem dX2_from_38 : decode cX2_from 38 = .ok (.imul, 1) := by decide +kernel
theorem dX2_from_39 : decode cX2_from 39 = .ok (.iload_n 2, 1) := by decide +kernel
theorem dX2_from_40 : decode cX2_from 40 = .ok (.iadd, 1) := by decide +kernel
theorem dX2_from_41 : decode cX2_from 41 = .ok (.iaload, 1) := by decide +kernel
theorem dX2_from_42 : decode cX2_from 42 = .ok (.istore 7, 2) := by decide +kernel
theorem dX2_from_44 : decode cX2_from 44 = .ok (.iload 7, 2) := by decide +kernel
theorem dX2_from_46 : decode cX2_from 46 = .ok (.ifCond .eq 27, 3) := by decide +kernel
theorem dX2_from_49 : decode cX2_from 49 = .ok (.aload_n 0, 1) := by decide +kernel
theorem dX2_from_50 : decode cX2_from 50 = .ok (.iload 7, 2) := by decide +kernel
theorem dX2_from_52 : decode cX2_from 52 = .ok (.invokevirtual 54, 3) := by decide +kernel
theorem dX2_from_55 : decode cX2_from 55 = .ok (.aload_n 0, 1) := by decide +kernel
theorem dX2_from_56 : decode cX2_from 56 = .ok (.iload 7, 2) := by decide +kernel
theorem dX2_from_58 : decode cX2_from 58 = .ok (.getstatic 26, 3) := by decide +kernel
theorem dX2_from_61 : decode cX2_from 61 = .ok (.iload 5, 2) := by decide +kernel
theorem dX2_from_63 : decode cX2_from 63 = .ok (.iaload, 1) := by decide +kernel
theorem dX2_from_64 : decode cX2_from 64 = .ok (.iload_n 3, 1) := by decide +kernel
theorem dX2_from_65 : decode cX2_from 65 = .ok (.iload 4, 2) := by decide +kernel
theorem dX2_from_67 : decode cX2_from 67 = .ok (.iconst 1, 1) := by decide +kernel
theorem dX2_from_68 : decode cX2_from 68 = .ok (.iadd, 1) := by decide +kernel
theorem dX2_from_69 : decode cX2_from 69 = .ok (.invokevirtual 58, 3) := by decide +kernel
theorem dX2_from_72 : decode cX2_from 72 = .ok (.ireturn, 1) := by decide +kernel
theorem dX2_from_73 : decode cX2_from 73 = .ok (.getstatic 26, 3) := by decide +kernel
theorem dX2_from_76 : decode cX2_from 76 = .ok (.iload 5, 2) := by decide +kernel
theorem dX2_from_78 : decode cX2_from 78 = .ok (.iaload, 1) := by decide +kernel
theorem dX2_from_79 : decode cX2_from 79 = .ok (.istore 5, 2) := by decide +kernel
theorem dX2_from_81 : decode cX2_from 81 = .ok (.iinc 6 1, 3) := by decide +kernel
theorem dX2_from_84 : decode cX2_from 84 = .ok (.goto (-78), 3) := by decide +kernel
theorem dX2_from_87 : decode cX2_from 87 = .ok (.iconst 0, 1) := by decide +kernel
theorem dX2_from_88 : decode cX2_from 88 = .ok (.ireturn, 1) := by decide +kernel
theorem dX2_note_0 : decode cX2_note 0 = .ok (.aload_n 0, 1) := by decide +kernel
theorem dX2_note_1 : decode cX2_note 1 = .ok (.getfield 29, 3) := by decide +kernel
theorem dX2_note_4 : decode cX2_note 4 = .ok (.bipush 24, 2) := by decide +kernel
theorem dX2_note_6 : decode cX2_note 6 = .ok (.if_icmp .ge 13, 3) := by decide +kernel
theorem dX2_note_9 : decode cX2_note 9 = .ok (.aload_n 0, 1) := by decide +kernel
theorem dX2_note_10 : decode cX2_note 10 = .ok (.getfield 15, 3) := by decide +kernel
theorem dX2_note_13 : decode cX2_note 13 = .ok (.aload_n 0, 1) := by decide +kernel
theorem dX2_note_14 : decode cX2_note 14 = .ok (.getfield 29, 3) := by decide +kernel
theorem dX2_note_17 : decode cX2_note 17 = .ok (.iload_n 1, 1) := by decide +kernel
theorem dX2_note_18 : decode cX2_note 18 = .ok (.iastore, 1) := by decide +kernel
theorem dX2_note_19 : decode cX2_note 19 = .ok (.aload_n 0, 1) := by decide +kernel
theorem dX2_note_20 : decode cX2_note 20 = .ok (.dup, 1) := by decide +kernel
theorem dX2_note_21 : decode cX2_note 21 = .ok (.getfield 29, 3) := by decide +kernel
theorem dX2_note_24 : decode cX2_note 24 = .ok (.iconst 1, 1) := by decide +kernel
theorem dX2_note_25 : decode cX2_note 25 = .ok (.iadd, 1) := by decide +kernel
theorem dX2_note_26 : decode cX2_note 26 = .ok (.putfield 29, 3) := by decide +kernel
theorem dX2_note_29 : decode cX2_note 29 = .ok (.return_, 1) := by decide +kernel
set_option maxRecDepth 20000 in
theorem ggX2_run_X2_own : GoodIn wsX2_run wsX2_own := goodIn_r _ [21, 1, 22, 23, 24, 5, 25, 26, 27, 28, 29, 30, 31, 6, 7, 8, 9, 10, 11, 12, 13, 14, 15, 16, 17, 18, 19, 20, 0, 2, 3, 4, 32, 33, 34, 35, 36] rfl (by decide +kernel)
set_option maxRecDepth 20000 in
theorem gX2_run_X2_own : GoodIn wsX2_run (wsV RX2 39 RX2 yX2_own wsX2_own) := goodIn_app (goodIn_r _ [2, 3, 4, 5] rfl (by decide +kernel)) ggX2_run_X2_own
set_option maxRecDepth 20000 in
theorem ggX2_run_X2_from : GoodIn wsX2_run wsX2_from := goodIn_r _ [9, 10, 11, 12, 13, 14, 5, 15, 16, 17, 18, 19, 20, 21, 1, 22, 23, 24, 25, 26, 27, 28, 29, 30, 31, 6, 7, 8, 0, 2, 3, 4, 32, 33, 34, 35, 36] rfl (by decide +kernel)
set_option maxRecDepth 20000 in
theorem gX2_run_X2_from : GoodIn wsX2_run (wsV RX2 47 RX2 yX2_from wsX2_from) := goodIn_app (goodIn_r _ [6, 7, 8, 5] rfl (by decide +kernel)) ggX2_run_X2_from
theorem dX2_run_0 : decode cX2_run 0 = .ok (.iload_n 1, 1) := by decide +kernel
theorem dX2_run_1 : decode cX2_run 1 = .ok (.lookupswitch 279 #[(1, 115), (2, 122), (10, 140), (11, 151), (20, 158), (30, 170), (40, 181), (41, 193), (50, 205), (60, 224), (70, 236), (80, 248), (81, 267)], 115) := by decide +kernel
theorem dX2_run_116 : decode cX2_run 116 = .ok (.iload_n 3, 1) := by decide +kernel
theorem dX2_run_117 : decode cX2_run 117 = .ok (.aload_n 0, 1) := by decide +kernel
theorem dX2_run_118 : decode cX2_run 118 = .ok (.getfield 36, 3) := by decide +kernel
theorem dX2_run_121 : decode cX2_run 121 = .ok (.iadd, 1) := by decide +kernel
theorem dX2_run_122 : decode cX2_run 122 = .ok (.ireturn, 1) := by decide +kernel
theorem dX2_run_123 : decode cX2_run 123 = .ok (.aload_n 0, 1) := by decide +kernel
theorem dX2_run_124 : decode cX2_run 124 = .ok (.iconst 1, 1) := by decide +kernel
theorem dX2_run_125 : decode cX2_run 125 = .ok (.iload_n 3, 1) := by decide +kernel
theorem dX2_run_126 : decode cX2_run 126 = .ok (.iload 4, 2) := by decide +kernel
theorem dX2_run_128 : decode cX2_run 128 = .ok (.invokevirtual 39, 3) := by decide +kernel
theorem dX2_run_131 : decode cX2_run 131 = .ok (.aload_n 0, 1) := by decide +kernel
theorem dX2_run_132 : decode cX2_run 132 = .ok (.iconst 2, 1) := by decide +kernel
theorem dX2_run_133 : decode cX2_run 133 = .ok (.iconst 1, 1) := by decide +kernel
theorem dX2_run_134 : decode cX2_run 134 = .ok (.iload 4, 2) := by decide +kernel
theorem dX2_run_136 : decode cX2_run 136 = .ok (.invokevirtual 39, 3) := by decide +kernel
theorem dX2_run_139 : decode cX2_run 139 = .ok (.isub, 1) := by decide +kernel
theorem dX2_run_140 : decode cX2_run 140 = .ok (.ireturn, 1) := by decide +kernel
theorem dX2_run_141 : decode cX2_run 141 = .ok (.aload_n 0, 1) := by decide +kernel
theorem dX2_run_142 : decode cX2_run 142 = .ok (.iconst 0, 1) := by decide +kernel
theorem dX2_run_143 : decode cX2_run 143 = .ok (.iload_n 3, 1) := by decide +kernel
theorem dX2_run_144 : decode cX2_run 144 = .ok (.iload 4, 2) := by decide +kernel
theorem dX2_run_146 : decode cX2_run 146 = .ok (.invokevirtual 39, 3) := by decide +kernel
theorem dX2_run_149 : decode cX2_run 149 = .ok (.iconst 2, 1) := by decide +kernel
theorem dX2_run_150 : decode cX2_run 150 = .ok (.imul, 1) := by decide +kernel
theorem dX2_run_151 : decode cX2_run 151 = .ok (.ireturn, 1) := by decide +kernel
theorem dX2_run_152 : decode cX2_run 152 = .ok (.iload_n 3, 1) := by decide +kernel
theorem dX2_run_153 : decode cX2_run 153 = .ok (.aload_n 0, 1) := by decide +kernel
theorem dX2_run_154 : decode cX2_run 154 = .ok (.getfield 36, 3) := by decide +kernel
theorem dX2_run_157 : decode cX2_run 157 = .ok (.ixor, 1) := by decide +kernel
theorem dX2_run_158 : decode cX2_run 158 = .ok (.ireturn, 1) := by decide +kernel
theorem dX2_run_159 : decode cX2_run 159 = .ok (.aload_n 0, 1) := by decide +kernel
theorem dX2_run_160 : decode cX2_run 160 = .ok (.iload_n 2, 1) := by decide +kernel
theorem dX2_run_161 : decode cX2_run 161 = .ok (.iconst 0, 1) := by decide +kernel
theorem dX2_run_162 : decode cX2_run 162 = .ok (.iload_n 3, 1) := by decide +kernel
theorem dX2_run_163 : decode cX2_run 163 = .ok (.iload 4, 2) := by decide +kernel
theorem dX2_run_165 : decode cX2_run 165 = .ok (.invokevirtual 47, 3) := by decide +kernel
theorem dX2_run_168 : decode cX2_run 168 = .ok (.iconst 3, 1) := by decide +kernel
theorem dX2_run_169 : decode cX2_run 169 = .ok (.iadd, 1) := by decide +kernel
theorem dX2_run_170 : decode cX2_run 170 = .ok (.ireturn, 1) := by decide +kernel
theorem dX2_run_171 : decode cX2_run 171 = .ok (.aload_n 0, 1) := by decide +kernel
theorem dX2_run_172 : decode cX2_run 172 = .ok (.iload_n 2, 1) := by decide +kernel
theorem dX2_run_173 : decode cX2_run 173 = .ok (.iconst 1, 1) := by decide +kernel
theorem dX2_run_174 : decode cX2_run 174 = .ok (.iload_n 3, 1) := by decide +kernel
theorem dX2_run_175 : decode cX2_run 175 = .ok (.iload 4, 2) := by decide +kernel
theorem dX2_run_177 : decode cX2_run 177 = .ok (.invokevirtual 47, 3) := by decide +kernel
theorem dX2_run_180 : decode cX2_run 180 = .ok (.ineg, 1) := by decide +kernel
theorem dX2_run_181 : decode cX2_run 181 = .ok (.ireturn, 1) := by decide +kernel
theorem dX2_run_182 : decode cX2_run 182 = .ok (.aload_n 0, 1) := by decide +kernel
theorem dX2_run_183 : decode cX2_run 183 = .ok (.iload_n 2, 1) := by decide +kernel
theorem dX2_run_184 : decode cX2_run 184 = .ok (.iconst 2, 1) := by decide +kernel
theorem dX2_run_185 : decode cX2_run 185 = .ok (.iload_n 3, 1) := by decide +kernel
theorem dX2_run_186 : decode cX2_run 186 = .ok (.iload 4, 2) := by decide +kernel
theorem dX2_run_188 : decode cX2_run 188 = .ok (.invokevirtual 47, 3) := by decide +kernel
theorem dX2_run_191 : decode cX2_run 191 = .ok (.iconst 3, 1) := by decide +kernel
theorem dX2_run_192 : decode cX2_run 192 = .ok (.imul, 1) := by decide +kernel
theorem dX2_run_193 : decode cX2_run 193 = .ok (.ireturn, 1) := by decide +kernel
theorem dX2_run_194 : decode cX2_run 194 = .ok (.aload_n 0, 1) := by decide +kernel
theorem dX2_run_195 : decode cX2_run 195 = .ok (.iload_n 2, 1) := by decide +kernel
theorem dX2_run_196 : decode cX2_run 196 = .ok (.iconst 1, 1) := by decide +kernel
theorem dX2_run_197 : decode cX2_run 197 = .ok (.iload_n 3, 1) := by decide +kernel
theorem dX2_run_198 : decode cX2_run 198 = .ok (.iconst 1, 1) := by decide +kernel
theorem dX2_run_199 : decode cX2_run 199 = .ok (.iadd, 1) := by decide +kernel
theorem dX2_run_200 : decode cX2_run 200 = .ok (.iload 4, 2) := by decide +kernel
theorem dX2_run_202 : decode cX2_run 202 = .ok (.invokevirtual 47, 3) := by decide +kernel
theorem dX2_run_205 : decode cX2_run 205 = .ok (.ireturn, 1) := by decide +kernel
theorem dX2_run_206 : decode cX2_run 206 = .ok (.aload_n 0, 1) := by decide +kernel
theorem dX2_run_207 : decode cX2_run 207 = .ok (.iload_n 2, 1) := by decide +kernel
theorem dX2_run_208 : decode cX2_run 208 = .ok (.iconst 2, 1) := by decide +kernel
theorem dX2_run_209 : decode cX2_run 209 = .ok (.iload_n 3, 1) := by decide +kernel
theorem dX2_run_210 : decode cX2_run 210 = .ok (.iload 4, 2) := by decide +kernel
theorem dX2_run_212 : decode cX2_run 212 = .ok (.invokevirtual 47, 3) := by decide +kernel
theorem dX2_run_215 : decode cX2_run 215 = .ok (.aload_n 0, 1) := by decide +kernel
theorem dX2_run_216 : decode cX2_run 216 = .ok (.iconst 0, 1) := by decide +kernel
theorem dX2_run_217 : decode cX2_run 217 = .ok (.iconst 2, 1) := by decide +kernel
theorem dX2_run_218 : decode cX2_run 218 = .ok (.iload 4, 2) := by decide +kernel
theorem dX2_run_220 : decode cX2_run 220 = .ok (.invokevirtual 39, 3) := by decide +kernel
theorem dX2_run_223 : decode cX2_run 223 = .ok (.isub, 1) := by decide +kernel
theorem dX2_run_224 : decode cX2_run 224 = .ok (.ireturn, 1) := by decide +kernel
theorem dX2_run_225 : decode cX2_run 225 = .ok (.aload_n 0, 1) := by decide +kernel
theorem dX2_run_226 : decode cX2_run 226 = .ok (.iload_n 2, 1) := by decide +kernel
theorem dX2_run_227 : decode cX2_run 227 = .ok (.iconst 3, 1) := by decide +kernel
theorem dX2_run_228 : decode cX2_run 228 = .ok (.iload_n 3, 1) := by decide +kernel
theorem dX2_run_229 : decode cX2_run 229 = .ok (.iload 4, 2) := by decide +kernel
theorem dX2_run_231 : decode cX2_run 231 = .ok (.invokevirtual 47, 3) := by decide +kernel
theorem dX2_run_234 : decode cX2_run 234 = .ok (.iconst 5, 1) := by decide +kernel
theorem dX2_run_235 : decode cX2_run 235 = .ok (.ixor, 1) := by decide +kernel
theorem dX2_run_236 : decode cX2_run 236 = .ok (.ireturn, 1) := by decide +kernel
theorem dX2_run_237 : decode cX2_run 237 = .ok (.aload_n 0, 1) := by decide +kernel
theorem dX2_run_238 : decode cX2_run 238 = .ok (.iload_n 2, 1) := by decide +kernel
theorem dX2_run_239 : decode cX2_run 239 = .ok (.iconst 0, 1) := by decide +kernel
theorem dX2_run_240 : decode cX2_run 240 = .ok (.iload_n 3, 1) := by decide +kernel
theorem dX2_run_241 : decode cX2_run 241 = .ok (.iload 4, 2) := by decide +kernel
theorem dX2_run_243 : decode cX2_run 243 = .ok (.invokevirtual 47, 3) := by decide +kernel
theorem dX2_run_246 : decode cX2_run 246 = .ok (.iconst 2, 1) := by decide +kernel
theorem dX2_run_247 : decode cX2_run 247 = .ok (.imul, 1) := by decide +kernel
theorem dX2_run_248 : decode cX2_run 248 = .ok (.ireturn, 1) := by decide +kernel
theorem dX2_run_249 : decode cX2_run 249 = .ok (.aload_n 0, 1) := by decide +kernel
theorem dX2_run_250 : decode cX2_run 250 = .ok (.iload_n 2, 1) := by decide +kernel
theorem dX2_run_251 : decode cX2_run 251 = .ok (.iconst 1, 1) := by decide +kernel
theorem dX2_run_252 : decode cX2_run 252 = .ok (.iload_n 3, 1) := by decide +kernel
theorem dX2_run_253 : decode cX2_run 253 = .ok (.iload 4, 2) := by decide +kernel
theorem dX2_run_255 : decode cX2_run 255 = .ok (.invokevirtual 47, 3) := by decide +kernel
theorem dX2_run_258 : decode cX2_run 258 = .ok (.aload_n 0, 1) := by decide +kernel
theorem dX2_run_259 : decode cX2_run 259 = .ok (.iconst 2, 1) := by decide +kernel
theorem dX2_run_260 : decode cX2_run 260 = .ok (.iconst 2, 1) := by decide +kernel
theorem dX2_run_261 : decode cX2_run 261 = .ok (.iload 4, 2) := by decide +kernel
theorem dX2_run_263 : decode cX2_run 263 = .ok (.invokevirtual 39, 3) := by decide +kernel
theorem dX2_run_266 : decode cX2_run 266 = .ok (.iadd, 1) := by decide +kernel
theorem dX2_run_267 : decode cX2_run 267 = .ok (.ireturn, 1) := by decide +kernel
theorem dX2_run_268 : decode cX2_run 268 = .ok (.aload_n 0, 1) := by decide +kernel
theorem dX2_run_269 : decode cX2_run 269 = .ok (.iload_n 2, 1) := by decide +kernel
theorem dX2_run_270 : decode cX2_run 270 = .ok (.iconst 3, 1) := by decide +kernel
theorem dX2_run_271 : decode cX2_run 271 = .ok (.iload_n 3, 1) := by decide +kernel
theorem dX2_run_272 : decode cX2_run 272 = .ok (.iload 4, 2) := by decide +kernel
theorem dX2_run_274 : decode cX2_run 274 = .ok (.invokevirtual 47, 3) := by decide +kernel
theorem dX2_run_277 : decode cX2_run 277 = .ok (.iconst 1, 1) := by decide +kernel
theorem dX2_run_278 : decode cX2_run 278 = .ok (.isub, 1) := by decide +kernel
theorem dX2_run_279 : decode cX2_run 279 = .ok (.ireturn, 1) := by decide +kernel
theorem dX2_run_280 : decode cX2_run 280 = .ok (.iconst 0, 1) := by decide +kernel
theorem dX2_run_281 : decode cX2_run 281 = .ok (.ireturn, 1) := by decide +kernel
theorem dX3_init_0 : decode cX3_init 0 = .ok (.aload_n 0, 1) := by decide +kernel
theorem dX3_init_1 : decode cX3_init 1 = .ok (.invokespecial 3, 3) := by decide +kernel
theorem dX3_init_4 : decode cX3_init 4 = .ok (.aload_n 0, 1) := by decide +kernel
theorem dX3_init_5 : decode cX3_init 5 = .ok (.bipush 8, 2) := by decide +kernel
theorem dX3_init_7 : decode cX3_init 7 = .ok (.newarray .int, 2) := by decide +kernel
theorem dX3_init_9 : decode cX3_init 9 = .ok (.putfield 9, 3) := by decide +kernel
theorem dX3_init_12 : decode cX3_init 12 = .ok (.aload_n 0, 1) := by decide +kernel
theorem dX3_init_13 : decode cX3_init 13 = .ok (.bipush 8, 2) := by decide +kernel
theorem dX3_init_15 : decode cX3_init 15 = .ok (.newarray .int, 2) := by decide +kernel
theorem dX3_init_17 : decode cX3_init 17 = .ok (.putfield 15, 3) := by decide +kernel
theorem dX3_init_20 : decode cX3_init 20 = .ok (.return_, 1) := by decide +kernel
set_option maxRecDepth 20000 in
theorem ggX3_ways_X3_waysFrom : GoodIn wsX3_ways wsX3_waysFrom := goodIn_r _ [8, 1, 2, 3, 9, 10, 11, 7, 12, 13, 14, 15, 16, 17, 18, 19, 4, 5, 6, 20, 21, 22] rfl (by decide +kernel)
set_option maxRecDepth 20000 in
theorem gX3_ways_X3_waysFrom : GoodIn wsX3_ways (wsV RX3 32 RX3 yX3_waysFrom wsX3_waysFrom) := goodIn_app (goodIn_r _ [4, 5, 6, 7] rfl (by decide +kernel)) ggX3_ways_X3_waysFrom
theorem dX3_ways_0 : decode cX3_ways 0 = .ok (.aload_n 0, 1) := by decide +kernel
theorem dX3_ways_1 : decode cX3_ways 1 = .ok (.iconst 0, 1) := by decide +kernel
theorem dX3_ways_2 : decode cX3_ways 2 = .ok (.putfield 18, 3) := by decide +kernel
theorem dX3_ways_5 : decode cX3_ways 5 = .ok (.iconst 0, 1) := by decide +kernel
theorem dX3_ways_6 : decode cX3_ways 6 = .ok (.istore 6, 2) := by decide +kernel
theorem dX3_ways_8 : decode cX3_ways 8 = .ok (.iload 6, 2) := by decide +kernel
theorem dX3_ways_10 : decode cX3_ways 10 = .ok (.aload_n 1, 1) := by decide +kernel
theorem dX3_ways_11 : decode cX3_ways 11 = .ok (.getfield 22, 3) := by decide +kernel
theorem dX3_ways_14 : decode cX3_ways 14 = .ok (.if_icmp .ge 62, 3) := by decide +kernel
theorem dX3_ways_17 : decode cX3_ways 17 = .ok (.aload_n 1, 1) := by decide +kernel
theorem dX3_ways_18 : decode cX3_ways 18 = .ok (.getfield 27, 3) := by decide +kernel
theorem dX3_ways_21 : decode cX3_ways 21 = .ok (.iload 6, 2) := by decide +kernel
theorem dX3_ways_23 : decode cX3_ways 23 = .ok (.iaload, 1) := by decide +kernel
theorem dX3_ways_24 : decode cX3_ways 24 = .ok (.iload_n 2, 1) := by decide +kernel
theorem dX3_ways_25 : decode cX3_ways 25 = .ok (.if_icmp .ne 45, 3) := by decide +kernel
theorem dX3_ways_28 : decode cX3_ways 28 = .ok (.aload_n 0, 1) := by decide +kernel
theorem dX3_ways_29 : decode cX3_ways 29 = .ok (.getfield 9, 3) := by decide +kernel
theorem dX3_ways_32 : decode cX3_ways 32 = .ok (.aload_n 0, 1) := by decide +kernel
theorem dX3_ways_33 : decode cX3_ways 33 = .ok (.getfield 18, 3) := by decide +kernel
theorem dX3_ways_36 : decode cX3_ways 36 = .ok (.aload_n 1, 1) := by decide +kernel
theorem dX3_ways_37 : decode cX3_ways 37 = .ok (.getfield 30, 3) := by decide +kernel
theorem dX3_ways_40 : decode cX3_ways 40 = .ok (.iload 6, 2) := by decide +kernel
theorem dX3_ways_42 : decode cX3_ways 42 = .ok (.iaload, 1) := by decide +kernel
theorem dX3_ways_43 : decode cX3_ways 43 = .ok (.iastore, 1) := by decide +kernel
theorem dX3_ways_44 : decode cX3_ways 44 = .ok (.aload_n 0, 1) := by decide +kernel
theorem dX3_ways_45 : decode cX3_ways 45 = .ok (.getfield 15, 3) := by decide +kernel
theorem dX3_ways_48 : decode cX3_ways 48 = .ok (.aload_n 0, 1) := by decide +kernel
theorem dX3_ways_49 : decode cX3_ways 49 = .ok (.getfield 18, 3) := by decide +kernel
theorem dX3_ways_52 : decode cX3_ways 52 = .ok (.aload_n 1, 1) := by decide +kernel
theorem dX3_ways_53 : decode cX3_ways 53 = .ok (.getfield 31, 3) := by decide +kernel
theorem dX3_ways_56 : decode cX3_ways 56 = .ok (.iload 6, 2) := by decide +kernel
theorem dX3_ways_58 : decode cX3_ways 58 = .ok (.iaload, 1) := by decide +kernel
theorem dX3_ways_59 : decode cX3_ways 59 = .ok (.iastore, 1) := by decide +kernel
theorem dX3_ways_60 : decode cX3_ways 60 = .ok (.aload_n 0, 1) := by decide +kernel
theorem dX3_ways_61 : decode cX3_ways 61 = .ok (.dup, 1) := by decide +kernel
theorem dX3_ways_62 : decode cX3_ways 62 = .ok (.getfield 18, 3) := by decide +kernel
theorem dX3_ways_65 : decode cX3_ways 65 = .ok (.iconst 1, 1) := by decide +kernel
theorem dX3_ways_66 : decode cX3_ways 66 = .ok (.iadd, 1) := by decide +kernel
theorem dX3_ways_67 : decode cX3_ways 67 = .ok (.putfield 18, 3) := by decide +kernel
theorem dX3_ways_70 : decode cX3_ways 70 = .ok (.iinc 6 1, 3) := by decide +kernel
theorem dX3_ways_73 : decode cX3_ways 73 = .ok (.goto (-65), 3) := by decide +kernel
theorem dX3_ways_76 : decode cX3_ways 76 = .ok (.aload_n 0, 1) := by decide +kernel
theorem dX3_ways_77 : decode cX3_ways 77 = .ok (.iconst 0, 1) := by decide +kernel
theorem dX3_ways_78 : decode cX3_ways 78 = .ok (.iload_n 3, 1) := by decide +kernel
theorem dX3_ways_79 : decode cX3_ways 79 = .ok (.iload 4, 2) := by decide +kernel
theorem dX3_ways_81 : decode cX3_ways 81 = .ok (.iload 5, 2) := by decide +kernel
theorem dX3_ways_83 : decode cX3_ways 83 = .ok (.invokevirtual 32, 3) := by decide +kernel
theorem dX3_ways_86 : decode cX3_ways 86 = .ok (.ireturn, 1) := by decide +kernel
set_option maxRecDepth 20000 in
theorem ggX3_waysFrom_X3_waysOfTwo : GoodIn wsX3_waysFrom wsX3_waysOfTwo := goodIn_r _ [8, 2, 3, 9, 10, 11, 19, 20, 21] rfl (by decide +kernel)
set_option maxRecDepth 20000 in
theorem gX3_waysFrom_X3_waysOfTwo : GoodIn wsX3_waysFrom (wsV RX3 36 RX3 yX3_waysOfTwo wsX3_waysOfTwo) := goodIn_app (goodIn_r _ [4, 5, 6, 7] rfl (by decide +kernel)) ggX3_waysFrom_X3_waysOfTwo
set_option maxRecDepth 20000 in
theorem ggX3_waysFrom_X3_waysBehind : GoodIn wsX3_waysFrom wsX3_waysBehind := goodIn_r _ [15, 2, 3, 16, 17, 18, 7, 0, 1, 4, 5, 6, 8, 9, 10, 11, 12, 13, 14, 19, 20, 21] rfl (by decide +kernel)
set_option maxRecDepth 20000 in
theorem gX3_waysFrom_X3_waysBehind : GoodIn wsX3_waysFrom (wsV RX3 39 RX3 yX3_waysBehind wsX3_waysBehind) := goodIn_app (goodIn_r _ [12, 13, 14, 7] rfl (by decide +kernel)) ggX3_waysFrom_X3_waysBehind
theorem dX3_waysFrom_0 : decode cX3_waysFrom 0 = .ok (.iload_n 3, 1) := by decide +kernel
theorem dX3_waysFrom_1 : decode cX3_waysFrom 1 = .ok (.ifCond .lt 8, 3) := by decide +kernel
theorem dX3_waysFrom_4 : decode cX3_waysFrom 4 = .ok (.iload 4, 2) := by decide +kernel
theorem dX3_waysFrom_6 : decode cX3_waysFrom 6 = .ok (.ifCond .ge 5, 3) := by decide +kernel
theorem dX3_waysFrom_9 : decode cX3_waysFrom 9 = .ok (.iconst 0, 1) := by decide +kernel
theorem dX3_waysFrom_10 : decode cX3_waysFrom 10 = .ok (.ireturn, 1) := by decide +kernel
theorem dX3_waysFrom_11 : decode cX3_waysFrom 11 = .ok (.iload_n 1, 1) := by decide +kernel
theorem dX3_waysFrom_12 : decode cX3_waysFrom 12 = .ok (.aload_n 0, 1) := by decide +kernel
theorem dX3_waysFrom_13 : decode cX3_waysFrom 13 = .ok (.getfield 18, 3) := by decide +kernel
theorem dX3_waysFrom_16 : decode cX3_waysFrom 16 = .ok (.if_icmp .lt 22, 3) := by decide +kernel
theorem dX3_waysFrom_19 : decode cX3_waysFrom 19 = .ok (.iload_n 2, 1) := by decide +kernel
theorem dX3_waysFrom_20 : decode cX3_waysFrom 20 = .ok (.ifCond .ne 16, 3) := by decide +kernel
theorem dX3_waysFrom_23 : decode cX3_waysFrom 23 = .ok (.iload_n 3, 1) := by decide +kernel
theorem dX3_waysFrom_24 : decode cX3_waysFrom 24 = .ok (.ifCond .ne 12, 3) := by decide +kernel
theorem dX3_waysFrom_27 : decode cX3_waysFrom 27 = .ok (.iload 4, 2) := by decide +kernel
theorem dX3_waysFrom_29 : decode cX3_waysFrom 29 = .ok (.ifCond .ne 7, 3) := by decide +kernel
theorem dX3_waysFrom_32 : decode cX3_waysFrom 32 = .ok (.iconst 1, 1) := by decide +kernel
theorem dX3_waysFrom_33 : decode cX3_waysFrom 33 = .ok (.goto 4, 3) := by decide +kernel
theorem dX3_waysFrom_36 : decode cX3_waysFrom 36 = .ok (.iconst 0, 1) := by decide +kernel
theorem dX3_waysFrom_37 : decode cX3_waysFrom 37 = .ok (.ireturn, 1) := by decide +kernel
theorem dX3_waysFrom_38 : decode cX3_waysFrom 38 = .ok (.iload_n 1, 1) := by decide +kernel
theorem dX3_waysFrom_39 : decode cX3_waysFrom 39 = .ok (.aload_n 0, 1) := by decide +kernel
theorem dX3_waysFrom_40 : decode cX3_waysFrom 40 = .ok (.getfield 18, 3) := by decide +kernel
theorem dX3_waysFrom_43 : decode cX3_waysFrom 43 = .ok (.iconst 1, 1) := by decide +kernel
theorem dX3_waysFrom_44 : decode cX3_waysFrom 44 = .ok (.isub, 1) := by decide +kernel
theorem dX3_waysFrom_45 : decode cX3_waysFrom 45 = .ok (.if_icmp .ne 34, 3) := by decide +kernel
theorem dX3_waysFrom_48 : decode cX3_waysFrom 48 = .ok (.iload_n 2, 1) := by decide +kernel
theorem dX3_waysFrom_49 : decode cX3_waysFrom 49 = .ok (.aload_n 0, 1) := by decide +kernel
theorem dX3_waysFrom_50 : decode cX3_waysFrom 50 = .ok (.getfield 9, 3) := by decide +kernel
theorem dX3_waysFrom_53 : decode cX3_waysFrom 53 = .ok (.iload_n 1, 1) := by decide +kernel
theorem dX3_waysFrom_54 : decode cX3_waysFrom 54 = .ok (.iaload, 1) := by decide +kernel
theorem dX3_waysFrom_55 : decode cX3_waysFrom 55 = .ok (.imul, 1) := by decide +kernel
theorem dX3_waysFrom_56 : decode cX3_waysFrom 56 = .ok (.iload_n 3, 1) := by decide +kernel
theorem dX3_waysFrom_57 : decode cX3_waysFrom 57 = .ok (.if_icmp .ne 20, 3) := by decide +kernel
theorem dX3_waysFrom_60 : decode cX3_waysFrom 60 = .ok (.iload_n 2, 1) := by decide +kernel
theorem dX3_waysFrom_61 : decode cX3_waysFrom 61 = .ok (.aload_n 0, 1) := by decide +kernel
theorem dX3_waysFrom_62 : decode cX3_waysFrom 62 = .ok (.getfield 15, 3) := by decide +kernel
theorem dX3_waysFrom_65 : decode cX3_waysFrom 65 = .ok (.iload_n 1, 1) := by decide +kernel
theorem dX3_waysFrom_66 : decode cX3_waysFrom 66 = .ok (.iaload, 1) := by decide +kernel
theorem dX3_waysFrom_67 : decode cX3_waysFrom 67 = .ok (.imul, 1) := by decide +kernel
theorem dX3_waysFrom_68 : decode cX3_waysFrom 68 = .ok (.iload 4, 2) := by decide +kernel
theorem dX3_waysFrom_70 : decode cX3_waysFrom 70 = .ok (.if_icmp .ne 7, 3) := by decide +kernel
theorem dX3_waysFrom_73 : decode cX3_waysFrom 73 = .ok (.iconst 1, 1) := by decide +kernel
theorem dX3_waysFrom_74 : decode cX3_waysFrom 74 = .ok (.goto 4, 3) := by decide +kernel
theorem dX3_waysFrom_77 : decode cX3_waysFrom 77 = .ok (.iconst 0, 1) := by decide +kernel
theorem dX3_waysFrom_78 : decode cX3_waysFrom 78 = .ok (.ireturn, 1) := by decide +kernel
theorem dX3_waysFrom_79 : decode cX3_waysFrom 79 = .ok (.iload_n 1, 1) := by decide +kernel
theorem dX3_waysFrom_80 : decode cX3_waysFrom 80 = .ok (.aload_n 0, 1) := by decide +kernel
theorem dX3_waysFrom_81 : decode cX3_waysFrom 81 = .ok (.getfield 18, 3) := by decide +kernel
theorem dX3_waysFrom_84 : decode cX3_waysFrom 84 = .ok (.iconst 2, 1) := by decide +kernel
theorem dX3_waysFrom_85 : decode cX3_waysFrom 85 = .ok (.isub, 1) := by decide +kernel
theorem dX3_waysFrom_86 : decode cX3_waysFrom 86 = .ok (.if_icmp .ne 13, 3) := by decide +kernel
theorem dX3_waysFrom_89 : decode cX3_waysFrom 89 = .ok (.aload_n 0, 1) := by decide +kernel
theorem dX3_waysFrom_90 : decode cX3_waysFrom 90 = .ok (.iload_n 1, 1) := by decide +kernel
theorem dX3_waysFrom_91 : decode cX3_waysFrom 91 = .ok (.iload_n 2, 1) := by decide +kernel
theorem dX3_waysFrom_92 : decode cX3_waysFrom 92 = .ok (.iload_n 3, 1) := by decide +kernel
theorem dX3_waysFrom_93 : decode cX3_waysFrom 93 = .ok (.iload 4, 2) := by decide +kernel
theorem dX3_waysFrom_95 : decode cX3_waysFrom 95 = .ok (.invokevirtual 36, 3) := by decide +kernel
theorem dX3_waysFrom_98 : decode cX3_waysFrom 98 = .ok (.ireturn, 1) := by decide +kernel
theorem dX3_waysFrom_99 : decode cX3_waysFrom 99 = .ok (.iconst 0, 1) := by decide +kernel
theorem dX3_waysFrom_100 : decode cX3_waysFrom 100 = .ok (.istore 5, 2) := by decide +kernel
theorem dX3_waysFrom_102 : decode cX3_waysFrom 102 = .ok (.iconst 0, 1) := by decide +kernel
theorem dX3_waysFrom_103 : decode cX3_waysFrom 103 = .ok (.istore 6, 2) := by decide +kernel
theorem dX3_waysFrom_105 : decode cX3_waysFrom 105 = .ok (.iload 6, 2) := by decide +kernel
theorem dX3_waysFrom_107 : decode cX3_waysFrom 107 = .ok (.iload_n 2, 1) := by decide +kernel
theorem dX3_waysFrom_108 : decode cX3_waysFrom 108 = .ok (.if_icmp .gt 25, 3) := by decide +kernel
theorem dX3_waysFrom_111 : decode cX3_waysFrom 111 = .ok (.iload 5, 2) := by decide +kernel
theorem dX3_waysFrom_113 : decode cX3_waysFrom 113 = .ok (.aload_n 0, 1) := by decide +kernel
theorem dX3_waysFrom_114 : decode cX3_waysFrom 114 = .ok (.iload_n 1, 1) := by decide +kernel
theorem dX3_waysFrom_115 : decode cX3_waysFrom 115 = .ok (.iload 6, 2) := by decide +kernel
theorem dX3_waysFrom_117 : decode cX3_waysFrom 117 = .ok (.iload_n 2, 1) := by decide +kernel
theorem dX3_waysFrom_118 : decode cX3_waysFrom 118 = .ok (.iload_n 3, 1) := by decide +kernel
theorem dX3_waysFrom_119 : decode cX3_waysFrom 119 = .ok (.iload 4, 2) := by decide +kernel
theorem dX3_waysFrom_121 : decode cX3_waysFrom 121 = .ok (.invokevirtual 39, 3) := by decide +kernel
theorem dX3_waysFrom_124 : decode cX3_waysFrom 124 = .ok (.iadd, 1) := by decide +kernel
theorem dX3_waysFrom_125 : decode cX3_waysFrom 125 = .ok (.istore 5, 2) := by decide +kernel
theorem dX3_waysFrom_127 : decode cX3_waysFrom 127 = .ok (.iinc 6 1, 3) := by decide +kernel
theorem dX3_waysFrom_130 : decode cX3_waysFrom 130 = .ok (.goto (-25), 3) := by decide +kernel
theorem dX3_waysFrom_133 : decode cX3_waysFrom 133 = .ok (.iload 5, 2) := by decide +kernel
theorem dX3_waysFrom_135 : decode cX3_waysFrom 135 = .ok (.ireturn, 1) := by decide +kernel
set_option maxRecDepth 20000 in
theorem ggX3_waysBehind_X3_waysFrom : GoodIn wsX3_waysBehind wsX3_waysFrom := goodIn_r _ [7, 8, 1, 2, 9, 10, 11, 6, 12, 13, 14, 15, 16, 17, 18, 0, 3, 4, 5, 19, 20, 21] rfl (by decide +kernel)
set_option maxRecDepth 20000 in
theorem gX3_waysBehind_X3_waysFrom : GoodIn wsX3_waysBehind (wsV RX3 32 RX3 yX3_waysFrom wsX3_waysFrom) := goodIn_app (goodIn_r _ [3, 4, 5, 6] rfl (by decide +kernel)) ggX3_waysBehind_X3_waysFrom
theorem dX3_waysBehind_0 : decode cX3_waysBehind 0 = .ok (.aload_n 0, 1) := by decide +kernel
theorem dX3_waysBehind_1 : decode cX3_waysBehind 1 = .ok (.iload_n 1, 1) := by decide +kernel
theorem dX3_waysBehind_2 : decode cX3_waysBehind 2 = .ok (.iconst 1, 1) := by decide +kernel
theorem dX3_waysBehind_3 : decode cX3_waysBehind 3 = .ok (.iadd, 1) := by decide +kernel
theorem dX3_waysBehind_4 : decode cX3_waysBehind 4 = .ok (.iload_n 3, 1) := by decide +kernel
theorem dX3_waysBehind_5 : decode cX3_waysBehind 5 = .ok (.iload_n 2, 1) := by decide +kernel
theorem dX3_waysBehind_6 : decode cX3_waysBehind 6 = .ok (.isub, 1) := by decide +kernel
theorem dX3_waysBehind_7 : decode cX3_waysBehind 7 = .ok (.iload 4, 2) := by decide +kernel
theorem dX3_waysBehind_9 : decode cX3_waysBehind 9 = .ok (.iload_n 2, 1) := by decide +kernel
theorem dX3_waysBehind_10 : decode cX3_waysBehind 10 = .ok (.aload_n 0, 1) := by decide +kernel
theorem dX3_waysBehind_11 : decode cX3_waysBehind 11 = .ok (.getfield 9, 3) := by decide +kernel
theorem dX3_waysBehind_14 : decode cX3_waysBehind 14 = .ok (.iload_n 1, 1) := by decide +kernel
theorem dX3_waysBehind_15 : decode cX3_waysBehind 15 = .ok (.iaload, 1) := by decide +kernel
theorem dX3_waysBehind_16 : decode cX3_waysBehind 16 = .ok (.imul, 1) := by decide +kernel
theorem dX3_waysBehind_17 : decode cX3_waysBehind 17 = .ok (.isub, 1) := by decide +kernel
theorem dX3_waysBehind_18 : decode cX3_waysBehind 18 = .ok (.iload 5, 2) := by decide +kernel
theorem dX3_waysBehind_20 : decode cX3_waysBehind 20 = .ok (.iload_n 2, 1) := by decide +kernel
theorem dX3_waysBehind_21 : decode cX3_waysBehind 21 = .ok (.aload_n 0, 1) := by decide +kernel
theorem dX3_waysBehind_22 : decode cX3_waysBehind 22 = .ok (.getfield 15, 3) := by decide +kernel
theorem dX3_waysBehind_25 : decode cX3_waysBehind 25 = .ok (.iload_n 1, 1) := by decide +kernel
theorem dX3_waysBehind_26 : decode cX3_waysBehind 26 = .ok (.iaload, 1) := by decide +kernel
theorem dX3_waysBehind_27 : decode cX3_waysBehind 27 = .ok (.imul, 1) := by decide +kernel
theorem dX3_waysBehind_28 : decode cX3_waysBehind 28 = .ok (.isub, 1) := by decide +kernel
theorem dX3_waysBehind_29 : decode cX3_waysBehind 29 = .ok (.invokevirtual 32, 3) := by decide +kernel
theorem dX3_waysBehind_32 : decode cX3_waysBehind 32 = .ok (.ireturn, 1) := by decide +kernel
set_option maxRecDepth 20000 in
theorem ggX3_waysOfTwo_X11_within : GoodIn wsX3_waysOfTwo wsX11_within := goodIn_r _ [5] rfl (by decide +kernel)
set_option maxRecDepth 20000 in
theorem gX3_waysOfTwo_X11_within_n43 : GoodIn wsX3_waysOfTwo (wsX11_within) := ggX3_waysOfTwo_X11_within
theorem dX3_waysOfTwo_0 : decode cX3_waysOfTwo 0 = .ok (.aload_n 0, 1) := by decide +kernel
theorem dX3_waysOfTwo_1 : decode cX3_waysOfTwo 1 = .ok (.getfield 9, 3) := by decide +kernel
theorem dX3_waysOfTwo_4 : decode cX3_waysOfTwo 4 = .ok (.iload_n 1, 1) := by decide +kernel
theorem dX3_waysOfTwo_5 : decode cX3_waysOfTwo 5 = .ok (.iaload, 1) := by decide +kernel
theorem dX3_waysOfTwo_6 : decode cX3_waysOfTwo 6 = .ok (.aload_n 0, 1) := by decide +kernel
theorem dX3_waysOfTwo_7 : decode cX3_waysOfTwo 7 = .ok (.getfield 9, 3) := by decide +kernel
theorem dX3_waysOfTwo_10 : decode cX3_waysOfTwo 10 = .ok (.iload_n 1, 1) := by decide +kernel
theorem dX3_waysOfTwo_11 : decode cX3_waysOfTwo 11 = .ok (.iconst 1, 1) := by decide +kernel
theorem dX3_waysOfTwo_12 : decode cX3_waysOfTwo 12 = .ok (.iadd, 1) := by decide +kernel
theorem dX3_waysOfTwo_13 : decode cX3_waysOfTwo 13 = .ok (.iaload, 1) := by decide +kernel
theorem dX3_waysOfTwo_14 : decode cX3_waysOfTwo 14 = .ok (.isub, 1) := by decide +kernel
theorem dX3_waysOfTwo_15 : decode cX3_waysOfTwo 15 = .ok (.istore 5, 2) := by decide +kernel
theorem dX3_waysOfTwo_17 : decode cX3_waysOfTwo 17 = .ok (.aload_n 0, 1) := by decide +kernel
theorem dX3_waysOfTwo_18 : decode cX3_waysOfTwo 18 = .ok (.getfield 15, 3) := by decide +kernel
theorem dX3_waysOfTwo_21 : decode cX3_waysOfTwo 21 = .ok (.iload_n 1, 1) := by decide +kernel
theorem dX3_waysOfTwo_22 : decode cX3_waysOfTwo 22 = .ok (.iaload, 1) := by decide +kernel
theorem dX3_waysOfTwo_23 : decode cX3_waysOfTwo 23 = .ok (.aload_n 0, 1) := by decide +kernel
theorem dX3_waysOfTwo_24 : decode cX3_waysOfTwo 24 = .ok (.getfield 15, 3) := by decide +kernel
theorem dX3_waysOfTwo_27 : decode cX3_waysOfTwo 27 = .ok (.iload_n 1, 1) := by decide +kernel
theorem dX3_waysOfTwo_28 : decode cX3_waysOfTwo 28 = .ok (.iconst 1, 1) := by decide +kernel
theorem dX3_waysOfTwo_29 : decode cX3_waysOfTwo 29 = .ok (.iadd, 1) := by decide +kernel
theorem dX3_waysOfTwo_30 : decode cX3_waysOfTwo 30 = .ok (.iaload, 1) := by decide +kernel
theorem dX3_waysOfTwo_31 : decode cX3_waysOfTwo 31 = .ok (.isub, 1) := by decide +kernel
theorem dX3_waysOfTwo_32 : decode cX3_waysOfTwo 32 = .ok (.istore 6, 2) := by decide +kernel
theorem dX3_waysOfTwo_34 : decode cX3_waysOfTwo 34 = .ok (.iload_n 3, 1) := by decide +kernel
theorem dX3_waysOfTwo_35 : decode cX3_waysOfTwo 35 = .ok (.iload_n 2, 1) := by decide +kernel
theorem dX3_waysOfTwo_36 : decode cX3_waysOfTwo 36 = .ok (.aload_n 0, 1) := by decide +kernel
theorem dX3_waysOfTwo_37 : decode cX3_waysOfTwo 37 = .ok (.getfield 9, 3) := by decide +kernel
theorem dX3_waysOfTwo_40 : decode cX3_waysOfTwo 40 = .ok (.iload_n 1, 1) := by decide +kernel
theorem dX3_waysOfTwo_41 : decode cX3_waysOfTwo 41 = .ok (.iconst 1, 1) := by decide +kernel
theorem dX3_waysOfTwo_42 : decode cX3_waysOfTwo 42 = .ok (.iadd, 1) := by decide +kernel
theorem dX3_waysOfTwo_43 : decode cX3_waysOfTwo 43 = .ok (.iaload, 1) := by decide +kernel
theorem dX3_waysOfTwo_44 : decode cX3_waysOfTwo 44 = .ok (.imul, 1) := by decide +kernel
theorem dX3_waysOfTwo_45 : decode cX3_waysOfTwo 45 = .ok (.isub, 1) := by decide +kernel
theorem dX3_waysOfTwo_46 : decode cX3_waysOfTwo 46 = .ok (.istore 7, 2) := by decide +kernel
theorem dX3_waysOfTwo_48 : decode cX3_waysOfTwo 48 = .ok (.iload 4, 2) := by decide +kernel
theorem dX3_waysOfTwo_50 : decode cX3_waysOfTwo 50 = .ok (.iload_n 2, 1) := by decide +kernel
theorem dX3_waysOfTwo_51 : decode cX3_waysOfTwo 51 = .ok (.aload_n 0, 1) := by decide +kernel
theorem dX3_waysOfTwo_52 : decode cX3_waysOfTwo 52 = .ok (.getfield 15, 3) := by decide +kernel
theorem dX3_waysOfTwo_55 : decode cX3_waysOfTwo 55 = .ok (.iload_n 1, 1) := by decide +kernel
theorem dX3_waysOfTwo_56 : decode cX3_waysOfTwo 56 = .ok (.iconst 1, 1) := by decide +kernel
theorem dX3_waysOfTwo_57 : decode cX3_waysOfTwo 57 = .ok (.iadd, 1) := by decide +kernel
theorem dX3_waysOfTwo_58 : decode cX3_waysOfTwo 58 = .ok (.iaload, 1) := by decide +kernel
theorem dX3_waysOfTwo_59 : decode cX3_waysOfTwo 59 = .ok (.imul, 1) := by decide +kernel
theorem dX3_waysOfTwo_60 : decode cX3_waysOfTwo 60 = .ok (.isub, 1) := by decide +kernel
theorem dX3_waysOfTwo_61 : decode cX3_waysOfTwo 61 = .ok (.istore 8, 2) := by decide +kernel
theorem dX3_waysOfTwo_63 : decode cX3_waysOfTwo 63 = .ok (.iload 5, 2) := by decide +kernel
theorem dX3_waysOfTwo_65 : decode cX3_waysOfTwo 65 = .ok (.ifCond .ne 26, 3) := by decide +kernel
theorem dX3_waysOfTwo_68 : decode cX3_waysOfTwo 68 = .ok (.iload 6, 2) := by decide +kernel
theorem dX3_waysOfTwo_70 : decode cX3_waysOfTwo 70 = .ok (.ifCond .ne 21, 3) := by decide +kernel
theorem dX3_waysOfTwo_73 : decode cX3_waysOfTwo 73 = .ok (.iload 7, 2) := by decide +kernel
theorem dX3_waysOfTwo_75 : decode cX3_waysOfTwo 75 = .ok (.ifCond .ne 14, 3) := by decide +kernel
theorem dX3_waysOfTwo_78 : decode cX3_waysOfTwo 78 = .ok (.iload 8, 2) := by decide +kernel
theorem dX3_waysOfTwo_80 : decode cX3_waysOfTwo 80 = .ok (.ifCond .ne 9, 3) := by decide +kernel
theorem dX3_waysOfTwo_83 : decode cX3_waysOfTwo 83 = .ok (.iload_n 2, 1) := by decide +kernel
theorem dX3_waysOfTwo_84 : decode cX3_waysOfTwo 84 = .ok (.iconst 1, 1) := by decide +kernel
theorem dX3_waysOfTwo_85 : decode cX3_waysOfTwo 85 = .ok (.iadd, 1) := by decide +kernel
theorem dX3_waysOfTwo_86 : decode cX3_waysOfTwo 86 = .ok (.goto 4, 3) := by decide +kernel
theorem dX3_waysOfTwo_89 : decode cX3_waysOfTwo 89 = .ok (.iconst 0, 1) := by decide +kernel
theorem dX3_waysOfTwo_90 : decode cX3_waysOfTwo 90 = .ok (.ireturn, 1) := by decide +kernel
theorem dX3_waysOfTwo_91 : decode cX3_waysOfTwo 91 = .ok (.iload 5, 2) := by decide +kernel
theorem dX3_waysOfTwo_93 : decode cX3_waysOfTwo 93 = .ok (.ifCond .eq 11, 3) := by decide +kernel
theorem dX3_waysOfTwo_96 : decode cX3_waysOfTwo 96 = .ok (.iload 7, 2) := by decide +kernel
theorem dX3_waysOfTwo_98 : decode cX3_waysOfTwo 98 = .ok (.iload 5, 2) := by decide +kernel
theorem dX3_waysOfTwo_100 : decode cX3_waysOfTwo 100 = .ok (.idiv, 1) := by decide +kernel
theorem dX3_waysOfTwo_101 : decode cX3_waysOfTwo 101 = .ok (.goto 8, 3) := by decide +kernel
theorem dX3_waysOfTwo_104 : decode cX3_waysOfTwo 104 = .ok (.iload 8, 2) := by decide +kernel
theorem dX3_waysOfTwo_106 : decode cX3_waysOfTwo 106 = .ok (.iload 6, 2) := by decide +kernel
theorem dX3_waysOfTwo_108 : decode cX3_waysOfTwo 108 = .ok (.idiv, 1) := by decide +kernel
theorem dX3_waysOfTwo_109 : decode cX3_waysOfTwo 109 = .ok (.istore 9, 2) := by decide +kernel
theorem dX3_waysOfTwo_111 : decode cX3_waysOfTwo 111 = .ok (.iload 9, 2) := by decide +kernel
theorem dX3_waysOfTwo_113 : decode cX3_waysOfTwo 113 = .ok (.iconst 0, 1) := by decide +kernel
theorem dX3_waysOfTwo_114 : decode cX3_waysOfTwo 114 = .ok (.iload_n 2, 1) := by decide +kernel
theorem dX3_waysOfTwo_115 : decode cX3_waysOfTwo 115 = .ok (.invokestatic 43, 3) := by decide +kernel
theorem dX3_waysOfTwo_118 : decode cX3_waysOfTwo 118 = .ok (.ifCond .eq 27, 3) := by decide +kernel
theorem dX3_waysOfTwo_121 : decode cX3_waysOfTwo 121 = .ok (.iload 9, 2) := by decide +kernel
theorem dX3_waysOfTwo_123 : decode cX3_waysOfTwo 123 = .ok (.iload 5, 2) := by decide +kernel
theorem dX3_waysOfTwo_125 : decode cX3_waysOfTwo 125 = .ok (.imul, 1) := by decide +kernel
theorem dX3_waysOfTwo_126 : decode cX3_waysOfTwo 126 = .ok (.iload 7, 2) := by decide +kernel
theorem dX3_waysOfTwo_128 : decode cX3_waysOfTwo 128 = .ok (.if_icmp .ne 17, 3) := by decide +kernel
theorem dX3_waysOfTwo_131 : decode cX3_waysOfTwo 131 = .ok (.iload 9, 2) := by decide +kernel
theorem dX3_waysOfTwo_133 : decode cX3_waysOfTwo 133 = .ok (.iload 6, 2) := by decide +kernel
theorem dX3_waysOfTwo_135 : decode cX3_waysOfTwo 135 = .ok (.imul, 1) := by decide +kernel
theorem dX3_waysOfTwo_136 : decode cX3_waysOfTwo 136 = .ok (.iload 8, 2) := by decide +kernel
theorem dX3_waysOfTwo_138 : decode cX3_waysOfTwo 138 = .ok (.if_icmp .ne 7, 3) := by decide +kernel
theorem dX3_waysOfTwo_141 : decode cX3_waysOfTwo 141 = .ok (.iconst 1, 1) := by decide +kernel
theorem dX3_waysOfTwo_142 : decode cX3_waysOfTwo 142 = .ok (.goto 4, 3) := by decide +kernel
theorem dX3_waysOfTwo_145 : decode cX3_waysOfTwo 145 = .ok (.iconst 0, 1) := by decide +kernel
theorem dX3_waysOfTwo_146 : decode cX3_waysOfTwo 146 = .ok (.ireturn, 1) := by decide +kernel
theorem dX4_init_0 : decode cX4_init 0 = .ok (.aload_n 0, 1) := by decide +kernel
theorem dX4_init_1 : decode cX4_init 1 = .ok (.invokespecial 3, 3) := by decide +kernel
theorem dX4_init_4 : decode cX4_init 4 = .ok (.aload_n 0, 1) := by decide +kernel
theorem dX4_init_5 : decode cX4_init 5 = .ok (.bipush 8, 2) := by decide +kernel
theorem dX4_init_7 : decode cX4_init 7 = .ok (.newarray .int, 2) := by decide +kernel
theorem dX4_init_9 : decode cX4_init 9 = .ok (.putfield 9, 3) := by decide +kernel
theorem dX4_init_12 : decode cX4_init 12 = .ok (.aload_n 0, 1) := by decide +kernel
theorem dX4_init_13 : decode cX4_init 13 = .ok (.bipush 10, 2) := by decide +kernel
theorem dX4_init_15 : decode cX4_init 15 = .ok (.newarray .int, 2) := by decide +kernel
theorem dX4_init_17 : decode cX4_init 17 = .ok (.putfield 15, 3) := by decide +kernel
theorem dX4_init_20 : decode cX4_init 20 = .ok (.aload_n 0, 1) := by decide +kernel
theorem dX4_init_21 : decode cX4_init 21 = .ok (.iconst 3, 1) := by decide +kernel
theorem dX4_init_22 : decode cX4_init 22 = .ok (.newarray .int, 2) := by decide +kernel
theorem dX4_init_24 : decode cX4_init 24 = .ok (.putfield 18, 3) := by decide +kernel
theorem dX4_init_27 : decode cX4_init 27 = .ok (.return_, 1) := by decide +kernel
theorem dX4_take_0 : decode cX4_take 0 = .ok (.aload_n 1, 1) := by decide +kernel
theorem dX4_take_1 : decode cX4_take 1 = .ok (.getfield 21, 3) := by decide +kernel
theorem dX4_take_4 : decode cX4_take 4 = .ok (.iconst 0, 1) := by decide +kernel
theorem dX4_take_5 : decode cX4_take 5 = .ok (.aload_n 0, 1) := by decide +kernel
theorem dX4_take_6 : decode cX4_take 6 = .ok (.getfield 9, 3) := by decide +kernel
theorem dX4_take_9 : decode cX4_take 9 = .ok (.iconst 0, 1) := by decide +kernel
theorem dX4_take_10 : decode cX4_take 10 = .ok (.bipush 8, 2) := by decide +kernel
theorem dX4_take_12 : decode cX4_take 12 = .ok (.invokestatic 24, 3) := by decide +kernel
theorem dX4_take_15 : decode cX4_take 15 = .ok (.aload_n 2, 1) := by decide +kernel
theorem dX4_take_16 : decode cX4_take 16 = .ok (.getfield 30, 3) := by decide +kernel
theorem dX4_take_19 : decode cX4_take 19 = .ok (.iconst 0, 1) := by decide +kernel
theorem dX4_take_20 : decode cX4_take 20 = .ok (.aload_n 0, 1) := by decide +kernel
theorem dX4_take_21 : decode cX4_take 21 = .ok (.getfield 15, 3) := by decide +kernel
theorem dX4_take_24 : decode cX4_take 24 = .ok (.iconst 0, 1) := by decide +kernel
theorem dX4_take_25 : decode cX4_take 25 = .ok (.bipush 10, 2) := by decide +kernel
theorem dX4_take_27 : decode cX4_take 27 = .ok (.invokestatic 24, 3) := by decide +kernel
theorem dX4_take_30 : decode cX4_take 30 = .ok (.aload_n 3, 1) := by decide +kernel
theorem dX4_take_31 : decode cX4_take 31 = .ok (.iconst 0, 1) := by decide +kernel
theorem dX4_take_32 : decode cX4_take 32 = .ok (.aload_n 0, 1) := by decide +kernel
theorem dX4_take_33 : decode cX4_take 33 = .ok (.getfield 18, 3) := by decide +kernel
theorem dX4_take_36 : decode cX4_take 36 = .ok (.iconst 0, 1) := by decide +kernel
theorem dX4_take_37 : decode cX4_take 37 = .ok (.iconst 3, 1) := by decide +kernel
theorem dX4_take_38 : decode cX4_take 38 = .ok (.invokestatic 24, 3) := by decide +kernel
theorem dX4_take_41 : decode cX4_take 41 = .ok (.aload_n 0, 1) := by decide +kernel
theorem dX4_take_42 : decode cX4_take 42 = .ok (.aload_n 1, 1) := by decide +kernel
theorem dX4_take_43 : decode cX4_take 43 = .ok (.getfield 33, 3) := by decide +kernel
theorem dX4_take_46 : decode cX4_take 46 = .ok (.putfield 37, 3) := by decide +kernel
theorem dX4_take_49 : decode cX4_take 49 = .ok (.aload_n 0, 1) := by decide +kernel
theorem dX4_take_50 : decode cX4_take 50 = .ok (.aload_n 2, 1) := by decide +kernel
theorem dX4_take_51 : decode cX4_take 51 = .ok (.getfield 40, 3) := by decide +kernel
theorem dX4_take_54 : decode cX4_take 54 = .ok (.putfield 41, 3) := by decide +kernel
theorem dX4_take_57 : decode cX4_take 57 = .ok (.aload_n 0, 1) := by decide +kernel
theorem dX4_take_58 : decode cX4_take 58 = .ok (.iconst 1, 1) := by decide +kernel
theorem dX4_take_59 : decode cX4_take 59 = .ok (.putfield 44, 3) := by decide +kernel
theorem dX4_take_62 : decode cX4_take 62 = .ok (.return_, 1) := by decide +kernel
theorem dX4_restore_0 : decode cX4_restore 0 = .ok (.iconst 0, 1) := by decide +kernel
theorem dX4_restore_1 : decode cX4_restore 1 = .ok (.istore 4, 2) := by decide +kernel
theorem dX4_restore_3 : decode cX4_restore 3 = .ok (.iload 4, 2) := by decide +kernel
theorem dX4_restore_5 : decode cX4_restore 5 = .ok (.aload_n 1, 1) := by decide +kernel
theorem dX4_restore_6 : decode cX4_restore 6 = .ok (.getfield 33, 3) := by decide +kernel
theorem dX4_restore_9 : decode cX4_restore 9 = .ok (.if_icmp .ge 36, 3) := by decide +kernel
theorem dX4_restore_12 : decode cX4_restore 12 = .ok (.aload_n 1, 1) := by decide +kernel
theorem dX4_restore_13 : decode cX4_restore 13 = .ok (.getfield 21, 3) := by decide +kernel
theorem dX4_restore_16 : decode cX4_restore 16 = .ok (.iload 4, 2) := by decide +kernel
theorem dX4_restore_18 : decode cX4_restore 18 = .ok (.iload 4, 2) := by decide +kernel
theorem dX4_restore_20 : decode cX4_restore 20 = .ok (.aload_n 0, 1) := by decide +kernel
theorem dX4_restore_21 : decode cX4_restore 21 = .ok (.getfield 37, 3) := by decide +kernel
theorem dX4_restore_24 : decode cX4_restore 24 = .ok (.if_icmp .ge 13, 3) := by decide +kernel
theorem dX4_restore_27 : decode cX4_restore 27 = .ok (.aload_n 0, 1) := by decide +kernel
theorem dX4_restore_28 : decode cX4_restore 28 = .ok (.getfield 9, 3) := by decide +kernel
theorem dX4_restore_31 : decode cX4_restore 31 = .ok (.iload 4, 2) := by decide +kernel
theorem dX4_restore_33 : decode cX4_restore 33 = .ok (.iaload, 1) := by decide +kernel
theorem dX4_restore_34 : decode cX4_restore 34 = .ok (.goto 4, 3) := by decide +kernel
theorem dX4_restore_37 : decode cX4_restore 37 = .ok (.iconst 0, 1) := by decide +kernel
theorem dX4_restore_38 : decode cX4_restore 38 = .ok (.iastore, 1) := by decide +kernel
theorem dX4_restore_39 : decode cX4_restore 39 = .ok (.iinc 4 1, 3) := by decide +kernel
theorem dX4_restore_42 : decode cX4_restore 42 = .ok (.goto (-39), 3) := by decide +kernel
theorem dX4_restore_45 : decode cX4_restore 45 = .ok (.iconst 0, 1) := by decide +kernel
theorem dX4_restore_46 : decode cX4_restore 46 = .ok (.istore 4, 2) := by decide +kernel
theorem dX4_restore_48 : decode cX4_restore 48 = .ok (.iload 4, 2) := by decide +kernel
theorem dX4_restore_50 : decode cX4_restore 50 = .ok (.aload_n 2, 1) := by decide +kernel
theorem dX4_restore_51 : decode cX4_restore 51 = .ok (.getfield 40, 3) := by decide +kernel
theorem dX4_restore_54 : decode cX4_restore 54 = .ok (.if_icmp .ge 32, 3) := by decide +kernel
theorem dX4_restore_57 : decode cX4_restore 57 = .ok (.iload 4, 2) := by decide +kernel
theorem dX4_restore_59 : decode cX4_restore 59 = .ok (.aload_n 0, 1) := by decide +kernel
theorem dX4_restore_60 : decode cX4_restore 60 = .ok (.getfield 41, 3) := by decide +kernel
theorem dX4_restore_63 : decode cX4_restore 63 = .ok (.if_icmp .ge 23, 3) := by decide +kernel
theorem dX4_restore_66 : decode cX4_restore 66 = .ok (.aload_n 2, 1) := by decide +kernel
theorem dX4_restore_67 : decode cX4_restore 67 = .ok (.getfield 30, 3) := by decide +kernel
theorem dX4_restore_70 : decode cX4_restore 70 = .ok (.iload 4, 2) := by decide +kernel
theorem dX4_restore_72 : decode cX4_restore 72 = .ok (.aload_n 0, 1) := by decide +kernel
theorem dX4_restore_73 : decode cX4_restore 73 = .ok (.getfield 15, 3) := by decide +kernel
theorem dX4_restore_76 : decode cX4_restore 76 = .ok (.iload 4, 2) := by decide +kernel
theorem dX4_restore_78 : decode cX4_restore 78 = .ok (.iaload, 1) := by decide +kernel
theorem dX4_restore_79 : decode cX4_restore 79 = .ok (.iastore, 1) := by decide +kernel
theorem dX4_restore_80 : decode cX4_restore 80 = .ok (.iinc 4 1, 3) := by decide +kernel
theorem dX4_restore_83 : decode cX4_restore 83 = .ok (.goto (-35), 3) := by decide +kernel
theorem dX4_restore_86 : decode cX4_restore 86 = .ok (.aload_n 0, 1) := by decide +kernel
theorem dX4_restore_87 : decode cX4_restore 87 = .ok (.getfield 18, 3) := by decide +kernel
theorem dX4_restore_90 : decode cX4_restore 90 = .ok (.iconst 0, 1) := by decide +kernel
theorem dX4_restore_91 : decode cX4_restore 91 = .ok (.aload_n 3, 1) := by decide +kernel
theorem dX4_restore_92 : decode cX4_restore 92 = .ok (.iconst 0, 1) := by decide +kernel
theorem dX4_restore_93 : decode cX4_restore 93 = .ok (.iconst 3, 1) := by decide +kernel
theorem dX4_restore_94 : decode cX4_restore 94 = .ok (.invokestatic 24, 3) := by decide +kernel
theorem dX4_restore_97 : decode cX4_restore 97 = .ok (.return_, 1) := by decide +kernel
theorem dX5_init_0 : decode cX5_init 0 = .ok (.aload_n 0, 1) := by decide +kernel
theorem dX5_init_1 : decode cX5_init 1 = .ok (.invokespecial 5, 3) := by decide +kernel
theorem dX5_init_4 : decode cX5_init 4 = .ok (.aload_n 0, 1) := by decide +kernel
theorem dX5_init_5 : decode cX5_init 5 = .ok (.bipush 31, 2) := by decide +kernel
theorem dX5_init_7 : decode cX5_init 7 = .ok (.newarray .long, 2) := by decide +kernel
theorem dX5_init_9 : decode cX5_init 9 = .ok (.putfield 11, 3) := by decide +kernel
theorem dX5_init_12 : decode cX5_init 12 = .ok (.aload_n 0, 1) := by decide +kernel
theorem dX5_init_13 : decode cX5_init 13 = .ok (.sipush 1921, 3) := by decide +kernel
theorem dX5_init_16 : decode cX5_init 16 = .ok (.newarray .int, 2) := by decide +kernel
theorem dX5_init_18 : decode cX5_init 18 = .ok (.putfield 15, 3) := by decide +kernel
theorem dX5_init_21 : decode cX5_init 21 = .ok (.aload_n 0, 1) := by decide +kernel
theorem dX5_init_22 : decode cX5_init 22 = .ok (.sipush 1921, 3) := by decide +kernel
theorem dX5_init_25 : decode cX5_init 25 = .ok (.newarray .int, 2) := by decide +kernel
theorem dX5_init_27 : decode cX5_init 27 = .ok (.putfield 19, 3) := by decide +kernel
theorem dX5_init_30 : decode cX5_init 30 = .ok (.aload_n 0, 1) := by decide +kernel
theorem dX5_init_31 : decode cX5_init 31 = .ok (.bipush 8, 2) := by decide +kernel
theorem dX5_init_33 : decode cX5_init 33 = .ok (.newarray .int, 2) := by decide +kernel
theorem dX5_init_35 : decode cX5_init 35 = .ok (.putfield 22, 3) := by decide +kernel
theorem dX5_init_38 : decode cX5_init 38 = .ok (.aload_n 0, 1) := by decide +kernel
theorem dX5_init_39 : decode cX5_init 39 = .ok (.bipush 8, 2) := by decide +kernel
theorem dX5_init_41 : decode cX5_init 41 = .ok (.newarray .int, 2) := by decide +kernel
theorem dX5_init_43 : decode cX5_init 43 = .ok (.putfield 25, 3) := by decide +kernel
theorem dX5_init_46 : decode cX5_init 46 = .ok (.return_, 1) := by decide +kernel
set_option maxRecDepth 20000 in
theorem ggX5_spread_J7_fill_d0a16 : GoodIn wsX5_spread wsJ7_fill_d0a16 := goodIn_r _ [5] rfl (by decide +kernel)
set_option maxRecDepth 20000 in
theorem gX5_spread_J7_fill_d0a16 : GoodIn wsX5_spread (va_wsS RX5 28 yJ7_fill_d0a16 wsJ7_fill_d0a16) := goodIn_app (goodIn_r _ [2, 3, 4] rfl (by decide +kernel)) ggX5_spread_J7_fill_d0a16
set_option maxRecDepth 20000 in
theorem ggX5_spread_X5_addCoin : GoodIn wsX5_spread wsX5_addCoin := goodIn_r _ [10, 1, 11, 12, 13, 14, 15] rfl (by decide +kernel)
set_option maxRecDepth 20000 in
theorem gX5_spread_X5_addCoin : GoodIn wsX5_spread (wsV RX5 46 RX5 yX5_addCoin wsX5_addCoin) := goodIn_app (goodIn_r _ [6, 7, 8, 9] rfl (by decide +kernel)) ggX5_spread_X5_addCoin
theorem dX5_spread_0 : decode cX5_spread 0 = .ok (.aload_n 0, 1) := by decide +kernel
theorem dX5_spread_1 : decode cX5_spread 1 = .ok (.getfield 11, 3) := by decide +kernel
theorem dX5_spread_4 : decode cX5_spread 4 = .ok (.lconst 0, 1) := by decide +kernel
theorem dX5_spread_5 : decode cX5_spread 5 = .ok (.invokestatic 28, 3) := by decide +kernel
theorem dX5_spread_8 : decode cX5_spread 8 = .ok (.aload_n 0, 1) := by decide +kernel
theorem dX5_spread_9 : decode cX5_spread 9 = .ok (.getfield 11, 3) := by decide +kernel
theorem dX5_spread_12 : decode cX5_spread 12 = .ok (.iconst 0, 1) := by decide +kernel
theorem dX5_spread_13 : decode cX5_spread 13 = .ok (.lconst 1, 1) := by decide +kernel
theorem dX5_spread_14 : decode cX5_spread 14 = .ok (.lastore, 1) := by decide +kernel
theorem dX5_spread_15 : decode cX5_spread 15 = .ok (.iconst 0, 1) := by decide +kernel
theorem dX5_spread_16 : decode cX5_spread 16 = .ok (.istore 4, 2) := by decide +kernel
theorem dX5_spread_18 : decode cX5_spread 18 = .ok (.iload 4, 2) := by decide +kernel
theorem dX5_spread_20 : decode cX5_spread 20 = .ok (.aload_n 1, 1) := by decide +kernel
theorem dX5_spread_21 : decode cX5_spread 21 = .ok (.getfield 34, 3) := by decide +kernel
theorem dX5_spread_24 : decode cX5_spread 24 = .ok (.if_icmp .ge 64, 3) := by decide +kernel
theorem dX5_spread_27 : decode cX5_spread 27 = .ok (.iload 4, 2) := by decide +kernel
theorem dX5_spread_29 : decode cX5_spread 29 = .ok (.aload_n 2, 1) := by decide +kernel
theorem dX5_spread_30 : decode cX5_spread 30 = .ok (.arraylength, 1) := by decide +kernel
theorem dX5_spread_31 : decode cX5_spread 31 = .ok (.if_icmp .ge 57, 3) := by decide +kernel
theorem dX5_spread_34 : decode cX5_spread 34 = .ok (.aload_n 1, 1) := by decide +kernel
theorem dX5_spread_35 : decode cX5_spread 35 = .ok (.getfield 40, 3) := by decide +kernel
theorem dX5_spread_38 : decode cX5_spread 38 = .ok (.iload 4, 2) := by decide +kernel
theorem dX5_spread_40 : decode cX5_spread 40 = .ok (.iaload, 1) := by decide +kernel
theorem dX5_spread_41 : decode cX5_spread 41 = .ok (.iload_n 3, 1) := by decide +kernel
theorem dX5_spread_42 : decode cX5_spread 42 = .ok (.if_icmp .ne 10, 3) := by decide +kernel
theorem dX5_spread_45 : decode cX5_spread 45 = .ok (.aload_n 2, 1) := by decide +kernel
theorem dX5_spread_46 : decode cX5_spread 46 = .ok (.iload 4, 2) := by decide +kernel
theorem dX5_spread_48 : decode cX5_spread 48 = .ok (.iaload, 1) := by decide +kernel
theorem dX5_spread_49 : decode cX5_spread 49 = .ok (.goto 4, 3) := by decide +kernel
theorem dX5_spread_52 : decode cX5_spread 52 = .ok (.iconst 0, 1) := by decide +kernel
theorem dX5_spread_53 : decode cX5_spread 53 = .ok (.istore 5, 2) := by decide +kernel
theorem dX5_spread_55 : decode cX5_spread 55 = .ok (.iconst 0, 1) := by decide +kernel
theorem dX5_spread_56 : decode cX5_spread 56 = .ok (.istore 6, 2) := by decide +kernel
theorem dX5_spread_58 : decode cX5_spread 58 = .ok (.iload 6, 2) := by decide +kernel
theorem dX5_spread_60 : decode cX5_spread 60 = .ok (.iload 5, 2) := by decide +kernel
theorem dX5_spread_62 : decode cX5_spread 62 = .ok (.if_icmp .ge 20, 3) := by decide +kernel
theorem dX5_spread_65 : decode cX5_spread 65 = .ok (.aload_n 0, 1) := by decide +kernel
theorem dX5_spread_66 : decode cX5_spread 66 = .ok (.aload_n 1, 1) := by decide +kernel
theorem dX5_spread_67 : decode cX5_spread 67 = .ok (.getfield 43, 3) := by decide +kernel
theorem dX5_spread_70 : decode cX5_spread 70 = .ok (.iload 4, 2) := by decide +kernel
theorem dX5_spread_72 : decode cX5_spread 72 = .ok (.iaload, 1) := by decide +kernel
theorem dX5_spread_73 : decode cX5_spread 73 = .ok (.invokevirtual 46, 3) := by decide +kernel
theorem dX5_spread_76 : decode cX5_spread 76 = .ok (.iinc 6 1, 3) := by decide +kernel
theorem dX5_spread_79 : decode cX5_spread 79 = .ok (.goto (-21), 3) := by decide +kernel
theorem dX5_spread_82 : decode cX5_spread 82 = .ok (.iinc 4 1, 3) := by decide +kernel
theorem dX5_spread_85 : decode cX5_spread 85 = .ok (.goto (-67), 3) := by decide +kernel
theorem dX5_spread_88 : decode cX5_spread 88 = .ok (.return_, 1) := by decide +kernel
theorem dX5_addCoin_0 : decode cX5_addCoin 0 = .ok (.bipush 30, 2) := by decide +kernel
theorem dX5_addCoin_2 : decode cX5_addCoin 2 = .ok (.istore_n 2, 1) := by decide +kernel
theorem dX5_addCoin_3 : decode cX5_addCoin 3 = .ok (.iload_n 2, 1) := by decide +kernel
theorem dX5_addCoin_4 : decode cX5_addCoin 4 = .ok (.ifCond .le 40, 3) := by decide +kernel
theorem dX5_addCoin_7 : decode cX5_addCoin 7 = .ok (.aload_n 0, 1) := by decide +kernel
theorem dX5_addCoin_8 : decode cX5_addCoin 8 = .ok (.getfield 11, 3) := by decide +kernel
theorem dX5_addCoin_11 : decode cX5_addCoin 11 = .ok (.iload_n 2, 1) := by decide +kernel
theorem dX5_addCoin_12 : decode cX5_addCoin 12 = .ok (.dup2, 1) := by decide +kernel
theorem dX5_addCoin_13 : decode cX5_addCoin 13 = .ok (.laload, 1) := by decide +kernel
theorem dX5_addCoin_14 : decode cX5_addCoin 14 = .ok (.aload_n 0, 1) := by decide +kernel
theorem dX5_addCoin_15 : decode cX5_addCoin 15 = .ok (.getfield 11, 3) := by decide +kernel
theorem dX5_addCoin_18 : decode cX5_addCoin 18 = .ok (.iload_n 2, 1) := by decide +kernel
theorem dX5_addCoin_19 : decode cX5_addCoin 19 = .ok (.laload, 1) := by decide +kernel
theorem dX5_addCoin_20 : decode cX5_addCoin 20 = .ok (.iload_n 1, 1) := by decide +kernel
theorem dX5_addCoin_21 : decode cX5_addCoin 21 = .ok (.lshl, 1) := by decide +kernel
theorem dX5_addCoin_22 : decode cX5_addCoin 22 = .ok (.aload_n 0, 1) := by decide +kernel
theorem dX5_addCoin_23 : decode cX5_addCoin 23 = .ok (.getfield 11, 3) := by decide +kernel
theorem dX5_addCoin_26 : decode cX5_addCoin 26 = .ok (.iload_n 2, 1) := by decide +kernel
theorem dX5_addCoin_27 : decode cX5_addCoin 27 = .ok (.iconst 1, 1) := by decide +kernel
theorem dX5_addCoin_28 : decode cX5_addCoin 28 = .ok (.isub, 1) := by decide +kernel
theorem dX5_addCoin_29 : decode cX5_addCoin 29 = .ok (.laload, 1) := by decide +kernel
theorem dX5_addCoin_30 : decode cX5_addCoin 30 = .ok (.bipush 64, 2) := by decide +kernel
theorem dX5_addCoin_32 : decode cX5_addCoin 32 = .ok (.iload_n 1, 1) := by decide +kernel
theorem dX5_addCoin_33 : decode cX5_addCoin 33 = .ok (.isub, 1) := by decide +kernel
theorem dX5_addCoin_34 : decode cX5_addCoin 34 = .ok (.lushr, 1) := by decide +kernel
theorem dX5_addCoin_35 : decode cX5_addCoin 35 = .ok (.lor, 1) := by decide +kernel
theorem dX5_addCoin_36 : decode cX5_addCoin 36 = .ok (.lor, 1) := by decide +kernel
theorem dX5_addCoin_37 : decode cX5_addCoin 37 = .ok (.lastore, 1) := by decide +kernel
theorem dX5_addCoin_38 : decode cX5_addCoin 38 = .ok (.iinc 2 (-1), 3) := by decide +kernel
theorem dX5_addCoin_41 : decode cX5_addCoin 41 = .ok (.goto (-38), 3) := by decide +kernel
theorem dX5_addCoin_44 : decode cX5_addCoin 44 = .ok (.aload_n 0, 1) := by decide +kernel
theorem dX5_addCoin_45 : decode cX5_addCoin 45 = .ok (.getfield 11, 3) := by decide +kernel
theorem dX5_addCoin_48 : decode cX5_addCoin 48 = .ok (.iconst 0, 1) := by decide +kernel
theorem dX5_addCoin_49 : decode cX5_addCoin 49 = .ok (.dup2, 1) := by decide +kernel
theorem dX5_addCoin_50 : decode cX5_addCoin 50 = .ok (.laload, 1) := by decide +kernel
theorem dX5_addCoin_51 : decode cX5_addCoin 51 = .ok (.aload_n 0, 1) := by decide +kernel
theorem dX5_addCoin_52 : decode cX5_addCoin 52 = .ok (.getfield 11, 3) := by decide +kernel
theorem dX5_addCoin_55 : decode cX5_addCoin 55 = .ok (.iconst 0, 1) := by decide +kernel
theorem dX5_addCoin_56 : decode cX5_addCoin 56 = .ok (.laload, 1) := by decide +kernel
theorem dX5_addCoin_57 : decode cX5_addCoin 57 = .ok (.iload_n 1, 1) := by decide +kernel
theorem dX5_addCoin_58 : decode cX5_addCoin 58 = .ok (.lshl, 1) := by decide +kernel
theorem dX5_addCoin_59 : decode cX5_addCoin 59 = .ok (.lor, 1) := by decide +kernel
theorem dX5_addCoin_60 : decode cX5_addCoin 60 = .ok (.lastore, 1) := by decide +kernel
theorem dX5_addCoin_61 : decode cX5_addCoin 61 = .ok (.return_, 1) := by decide +kernel
theorem dX5_can_0 : decode cX5_can 0 = .ok (.iload_n 1, 1) := by decide +kernel
theorem dX5_can_1 : decode cX5_can 1 = .ok (.ifCond .lt 35, 3) := by decide +kernel
theorem dX5_can_4 : decode cX5_can 4 = .ok (.iload_n 1, 1) := by decide +kernel
theorem dX5_can_5 : decode cX5_can 5 = .ok (.sipush 1920, 3) := by decide +kernel
theorem dX5_can_8 : decode cX5_can 8 = .ok (.if_icmp .gt 28, 3) := by decide +kernel
theorem dX5_can_11 : decode cX5_can 11 = .ok (.aload_n 0, 1) := by decide +kernel
theorem dX5_can_12 : decode cX5_can 12 = .ok (.getfield 11, 3) := by decide +kernel
theorem dX5_can_15 : decode cX5_can 15 = .ok (.iload_n 1, 1) := by decide +kernel
theorem dX5_can_16 : decode cX5_can 16 = .ok (.bipush 64, 2) := by decide +kernel
theorem dX5_can_18 : decode cX5_can 18 = .ok (.idiv, 1) := by decide +kernel
theorem dX5_can_19 : decode cX5_can 19 = .ok (.laload, 1) := by decide +kernel
theorem dX5_can_20 : decode cX5_can 20 = .ok (.iload_n 1, 1) := by decide +kernel
theorem dX5_can_21 : decode cX5_can 21 = .ok (.bipush 64, 2) := by decide +kernel
theorem dX5_can_23 : decode cX5_can 23 = .ok (.irem, 1) := by decide +kernel
theorem dX5_can_24 : decode cX5_can 24 = .ok (.lushr, 1) := by decide +kernel
theorem dX5_can_25 : decode cX5_can 25 = .ok (.lconst 1, 1) := by decide +kernel
theorem dX5_can_26 : decode cX5_can 26 = .ok (.land, 1) := by decide +kernel
theorem dX5_can_27 : decode cX5_can 27 = .ok (.lconst 0, 1) := by decide +kernel
theorem dX5_can_28 : decode cX5_can 28 = .ok (.lcmp, 1) := by decide +kernel
theorem dX5_can_29 : decode cX5_can 29 = .ok (.ifCond .eq 7, 3) := by decide +kernel
theorem dX5_can_32 : decode cX5_can 32 = .ok (.iconst 1, 1) := by decide +kernel
theorem dX5_can_33 : decode cX5_can 33 = .ok (.goto 4, 3) := by decide +kernel
theorem dX5_can_36 : decode cX5_can 36 = .ok (.iconst 0, 1) := by decide +kernel
theorem dX5_can_37 : decode cX5_can 37 = .ok (.ireturn, 1) := by decide +kernel
set_option maxRecDepth 20000 in
theorem ggX5_sumsAboveZero_J13_bitCount_95d88 : GoodIn wsX5_sumsAboveZero wsJ13_bitCount_95d88 := goodIn_r _ [5, 6, 7, 8] rfl (by decide +kernel)
set_option maxRecDepth 20000 in
theorem gX5_sumsAboveZero_J13_bitCount_95d88 : GoodIn wsX5_sumsAboveZero (va_wsS RX5 50 yJ13_bitCount_95d88 wsJ13_bitCount_95d88) := goodIn_app (goodIn_r _ [2, 3, 4] rfl (by decide +kernel)) ggX5_sumsAboveZero_J13_bitCount_95d88
theorem dX5_sumsAboveZero_0 : decode cX5_sumsAboveZero 0 = .ok (.iconst 0, 1) := by decide +kernel
theorem dX5_sumsAboveZero_1 : decode cX5_sumsAboveZero 1 = .ok (.istore_n 1, 1) := by decide +kernel
theorem dX5_sumsAboveZero_2 : decode cX5_sumsAboveZero 2 = .ok (.iconst 0, 1) := by decide +kernel
theorem dX5_sumsAboveZero_3 : decode cX5_sumsAboveZero 3 = .ok (.istore_n 2, 1) := by decide +kernel
theorem dX5_sumsAboveZero_4 : decode cX5_sumsAboveZero 4 = .ok (.iload_n 2, 1) := by decide +kernel
theorem dX5_sumsAboveZero_5 : decode cX5_sumsAboveZero 5 = .ok (.bipush 31, 2) := by decide +kernel
theorem dX5_sumsAboveZero_7 : decode cX5_sumsAboveZero 7 = .ok (.if_icmp .ge 21, 3) := by decide +kernel
theorem dX5_sumsAboveZero_10 : decode cX5_sumsAboveZero 10 = .ok (.iload_n 1, 1) := by decide +kernel
theorem dX5_sumsAboveZero_11 : decode cX5_sumsAboveZero 11 = .ok (.aload_n 0, 1) := by decide +kernel
theorem dX5_sumsAboveZero_12 : decode cX5_sumsAboveZero 12 = .ok (.getfield 11, 3) := by decide +kernel
theorem dX5_sumsAboveZero_15 : decode cX5_sumsAboveZero 15 = .ok (.iload_n 2, 1) := by decide +kernel
theorem dX5_sumsAboveZero_16 : decode cX5_sumsAboveZero 16 = .ok (.laload, 1) := by decide +kernel
theorem dX5_sumsAboveZero_17 : decode cX5_sumsAboveZero 17 = .ok (.invokestatic 50, 3) := by decide +kernel
theorem dX5_sumsAboveZero_20 : decode cX5_sumsAboveZero 20 = .ok (.iadd, 1) := by decide +kernel
theorem dX5_sumsAboveZero_21 : decode cX5_sumsAboveZero 21 = .ok (.istore_n 1, 1) := by decide +kernel
theorem dX5_sumsAboveZero_22 : decode cX5_sumsAboveZero 22 = .ok (.iinc 2 1, 3) := by decide +kernel
theorem dX5_sumsAboveZero_25 : decode cX5_sumsAboveZero 25 = .ok (.goto (-21), 3) := by decide +kernel
theorem dX5_sumsAboveZero_28 : decode cX5_sumsAboveZero 28 = .ok (.iload_n 1, 1) := by decide +kernel
theorem dX5_sumsAboveZero_29 : decode cX5_sumsAboveZero 29 = .ok (.iconst 1, 1) := by decide +kernel
theorem dX5_sumsAboveZero_30 : decode cX5_sumsAboveZero 30 = .ok (.isub, 1) := by decide +kernel
theorem dX5_sumsAboveZero_31 : decode cX5_sumsAboveZero 31 = .ok (.ireturn, 1) := by decide +kernel
set_option maxRecDepth 20000 in
theorem ggX5_leastGap_X5_can : GoodIn wsX5_leastGap wsX5_can := goodIn_r _ [5, 6, 7, 8, 9, 10, 11] rfl (by decide +kernel)
set_option maxRecDepth 20000 in
theorem gX5_leastGap_X5_can : GoodIn wsX5_leastGap (wsV RX5 56 RX5 yX5_can wsX5_can) := goodIn_app (goodIn_r _ [1, 2, 3, 4] rfl (by decide +kernel)) ggX5_leastGap_X5_can
theorem dX5_leastGap_0 : decode cX5_leastGap 0 = .ok (.iconst 1, 1) := by decide +kernel
theorem dX5_leastGap_1 : decode cX5_leastGap 1 = .ok (.istore_n 1, 1) := by decide +kernel
theorem dX5_leastGap_2 : decode cX5_leastGap 2 = .ok (.iload_n 1, 1) := by decide +kernel
theorem dX5_leastGap_3 : decode cX5_leastGap 3 = .ok (.sipush 1920, 3) := by decide +kernel
theorem dX5_leastGap_6 : decode cX5_leastGap 6 = .ok (.if_icmp .gt 17, 3) := by decide +kernel
theorem dX5_leastGap_9 : decode cX5_leastGap 9 = .ok (.aload_n 0, 1) := by decide +kernel
theorem dX5_leastGap_10 : decode cX5_leastGap 10 = .ok (.iload_n 1, 1) := by decide +kernel
theorem dX5_leastGap_11 : decode cX5_leastGap 11 = .ok (.invokevirtual 56, 3) := by decide +kernel
theorem dX5_leastGap_14 : decode cX5_leastGap 14 = .ok (.ifCond .eq 9, 3) := by decide +kernel
theorem dX5_leastGap_17 : decode cX5_leastGap 17 = .ok (.iinc 1 1, 3) := by decide +kernel
theorem dX5_leastGap_20 : decode cX5_leastGap 20 = .ok (.goto (-18), 3) := by decide +kernel
theorem dX5_leastGap_23 : decode cX5_leastGap 23 = .ok (.iload_n 1, 1) := by decide +kernel
theorem dX5_leastGap_24 : decode cX5_leastGap 24 = .ok (.ireturn, 1) := by decide +kernel
set_option maxRecDepth 20000 in
theorem ggX5_leastFrom_X5_can : GoodIn wsX5_leastFrom wsX5_can := goodIn_r _ [5, 6, 7, 8, 9, 10, 11] rfl (by decide +kernel)
set_option maxRecDepth 20000 in
theorem gX5_leastFrom_X5_can : GoodIn wsX5_leastFrom (wsV RX5 56 RX5 yX5_can wsX5_can) := goodIn_app (goodIn_r _ [1, 2, 3, 4] rfl (by decide +kernel)) ggX5_leastFrom_X5_can
theorem dX5_leastFrom_0 : decode cX5_leastFrom 0 = .ok (.iload_n 1, 1) := by decide +kernel
theorem dX5_leastFrom_1 : decode cX5_leastFrom 1 = .ok (.istore_n 2, 1) := by decide +kernel
theorem dX5_leastFrom_2 : decode cX5_leastFrom 2 = .ok (.iload_n 2, 1) := by decide +kernel
theorem dX5_leastFrom_3 : decode cX5_leastFrom 3 = .ok (.sipush 1920, 3) := by decide +kernel
theorem dX5_leastFrom_6 : decode cX5_leastFrom 6 = .ok (.if_icmp .gt 19, 3) := by decide +kernel
theorem dX5_leastFrom_9 : decode cX5_leastFrom 9 = .ok (.aload_n 0, 1) := by decide +kernel
theorem dX5_leastFrom_10 : decode cX5_leastFrom 10 = .ok (.iload_n 2, 1) := by decide +kernel
theorem dX5_leastFrom_11 : decode cX5_leastFrom 11 = .ok (.invokevirtual 56, 3) := by decide +kernel
theorem dX5_leastFrom_14 : decode cX5_leastFrom 14 = .ok (.ifCond .eq 5, 3) := by decide +kernel
theorem dX5_leastFrom_17 : decode cX5_leastFrom 17 = .ok (.iload_n 2, 1) := by decide +kernel
theorem dX5_leastFrom_18 : decode cX5_leastFrom 18 = .ok (.ireturn, 1) := by decide +kernel
theorem dX5_leastFrom_19 : decode cX5_leastFrom 19 = .ok (.iinc 2 1, 3) := by decide +kernel
theorem dX5_leastFrom_22 : decode cX5_leastFrom 22 = .ok (.goto (-20), 3) := by decide +kernel
theorem dX5_leastFrom_25 : decode cX5_leastFrom 25 = .ok (.bipush (-2), 2) := by decide +kernel
theorem dX5_leastFrom_27 : decode cX5_leastFrom 27 = .ok (.ireturn, 1) := by decide +kernel
set_option maxRecDepth 20000 in
theorem ggX5_pay_X11_within : GoodIn wsX5_pay wsX11_within := goodIn_r _ [7] rfl (by decide +kernel)
set_option maxRecDepth 20000 in
theorem gX5_pay_X11_within_n60 : GoodIn wsX5_pay (wsX11_within) := ggX5_pay_X11_within
set_option maxRecDepth 20000 in
theorem ggX5_pay_J7_fill_fda19 : GoodIn wsX5_pay wsJ7_fill_fda19 := goodIn_r _ [11, 12, 13, 10, 14] rfl (by decide +kernel)
set_option maxRecDepth 20000 in
theorem gX5_pay_J7_fill_fda19 : GoodIn wsX5_pay (va_wsS RX5 65 yJ7_fill_fda19 wsJ7_fill_fda19) := goodIn_app (goodIn_r _ [8, 9, 10] rfl (by decide +kernel)) ggX5_pay_J7_fill_fda19
set_option maxRecDepth 20000 in
theorem ggX5_pay_X5_placeOf : GoodIn wsX5_pay wsX5_placeOf := goodIn_r _ [18] rfl (by decide +kernel)
set_option maxRecDepth 20000 in
theorem gX5_pay_X5_placeOf : GoodIn wsX5_pay (va_wsS RX5 73 yX5_placeOf wsX5_placeOf) := goodIn_app (goodIn_r _ [15, 16, 17] rfl (by decide +kernel)) ggX5_pay_X5_placeOf
set_option maxRecDepth 20000 in
theorem ggX5_pay_X5_payWithOneMore : GoodIn wsX5_pay wsX5_payWithOneMore := goodIn_r _ [22, 1, 2, 23, 24, 25, 26, 32, 33, 34, 35, 36] rfl (by decide +kernel)
set_option maxRecDepth 20000 in
theorem gX5_pay_X5_payWithOneMore : GoodIn wsX5_pay (wsV RX5 77 RX5 yX5_payWithOneMore wsX5_payWithOneMore) := goodIn_app (goodIn_r _ [19, 20, 21, 17] rfl (by decide +kernel)) ggX5_pay_X5_payWithOneMore
set_option maxRecDepth 20000 in
theorem ggX5_pay_X5_coinsOf : GoodIn wsX5_pay wsX5_coinsOf := goodIn_r _ [30, 31, 15, 16, 17, 18, 32, 33, 34, 35, 36] rfl (by decide +kernel)
set_option maxRecDepth 20000 in
theorem gX5_pay_X5_coinsOf : GoodIn wsX5_pay (wsV RX5 81 RX5 yX5_coinsOf wsX5_coinsOf) := goodIn_app (goodIn_r _ [27, 28, 29, 17] rfl (by decide +kernel)) ggX5_pay_X5_coinsOf
theorem dX5_pay_0 : decode cX5_pay 0 = .ok (.iload_n 3, 1) := by decide +kernel
theorem dX5_pay_1 : decode cX5_pay 1 = .ok (.iconst 0, 1) := by decide +kernel
theorem dX5_pay_2 : decode cX5_pay 2 = .ok (.sipush 1920, 3) := by decide +kernel
theorem dX5_pay_5 : decode cX5_pay 5 = .ok (.invokestatic 60, 3) := by decide +kernel
theorem dX5_pay_8 : decode cX5_pay 8 = .ok (.ifCond .ne 6, 3) := by decide +kernel
theorem dX5_pay_11 : decode cX5_pay 11 = .ok (.bipush (-2), 2) := by decide +kernel
theorem dX5_pay_13 : decode cX5_pay 13 = .ok (.ireturn, 1) := by decide +kernel
theorem dX5_pay_14 : decode cX5_pay 14 = .ok (.aload_n 0, 1) := by decide +kernel
theorem dX5_pay_15 : decode cX5_pay 15 = .ok (.getfield 15, 3) := by decide +kernel
theorem dX5_pay_18 : decode cX5_pay 18 = .ok (.iconst 0, 1) := by decide +kernel
theorem dX5_pay_19 : decode cX5_pay 19 = .ok (.iload_n 3, 1) := by decide +kernel
theorem dX5_pay_20 : decode cX5_pay 20 = .ok (.iconst 1, 1) := by decide +kernel
theorem dX5_pay_21 : decode cX5_pay 21 = .ok (.iadd, 1) := by decide +kernel
theorem dX5_pay_22 : decode cX5_pay 22 = .ok (.ldc 64, 2) := by decide +kernel
theorem dX5_pay_24 : decode cX5_pay 24 = .ok (.invokestatic 65, 3) := by decide +kernel
theorem dX5_pay_27 : decode cX5_pay 27 = .ok (.aload_n 0, 1) := by decide +kernel
theorem dX5_pay_28 : decode cX5_pay 28 = .ok (.getfield 15, 3) := by decide +kernel
theorem dX5_pay_31 : decode cX5_pay 31 = .ok (.iconst 0, 1) := by decide +kernel
theorem dX5_pay_32 : decode cX5_pay 32 = .ok (.iconst 0, 1) := by decide +kernel
theorem dX5_pay_33 : decode cX5_pay 33 = .ok (.iastore, 1) := by decide +kernel
theorem dX5_pay_34 : decode cX5_pay 34 = .ok (.iconst 0, 1) := by decide +kernel
theorem dX5_pay_35 : decode cX5_pay 35 = .ok (.istore 5, 2) := by decide +kernel
theorem dX5_pay_37 : decode cX5_pay 37 = .ok (.iload 5, 2) := by decide +kernel
theorem dX5_pay_39 : decode cX5_pay 39 = .ok (.aload_n 1, 1) := by decide +kernel
theorem dX5_pay_40 : decode cX5_pay 40 = .ok (.getfield 34, 3) := by decide +kernel
theorem dX5_pay_43 : decode cX5_pay 43 = .ok (.if_icmp .ge 85, 3) := by decide +kernel
theorem dX5_pay_46 : decode cX5_pay 46 = .ok (.aload_n 1, 1) := by decide +kernel
theorem dX5_pay_47 : decode cX5_pay 47 = .ok (.getfield 40, 3) := by decide +kernel
theorem dX5_pay_50 : decode cX5_pay 50 = .ok (.iload 5, 2) := by decide +kernel
theorem dX5_pay_52 : decode cX5_pay 52 = .ok (.iaload, 1) := by decide +kernel
theorem dX5_pay_53 : decode cX5_pay 53 = .ok (.iload_n 2, 1) := by decide +kernel
theorem dX5_pay_54 : decode cX5_pay 54 = .ok (.if_icmp .ne 13, 3) := by decide +kernel
theorem dX5_pay_57 : decode cX5_pay 57 = .ok (.aload_n 1, 1) := by decide +kernel
theorem dX5_pay_58 : decode cX5_pay 58 = .ok (.getfield 68, 3) := by decide +kernel
theorem dX5_pay_61 : decode cX5_pay 61 = .ok (.iload 5, 2) := by decide +kernel
theorem dX5_pay_63 : decode cX5_pay 63 = .ok (.iaload, 1) := by decide +kernel
theorem dX5_pay_64 : decode cX5_pay 64 = .ok (.goto 4, 3) := by decide +kernel
theorem dX5_pay_67 : decode cX5_pay 67 = .ok (.iconst 0, 1) := by decide +kernel
theorem dX5_pay_68 : decode cX5_pay 68 = .ok (.istore 6, 2) := by decide +kernel
theorem dX5_pay_70 : decode cX5_pay 70 = .ok (.iload 4, 2) := by decide +kernel
theorem dX5_pay_72 : decode cX5_pay 72 = .ok (.ifCond .eq 8, 3) := by decide +kernel
theorem dX5_pay_75 : decode cX5_pay 75 = .ok (.ldc 71, 2) := by decide +kernel
theorem dX5_pay_77 : decode cX5_pay 77 = .ok (.goto 5, 3) := by decide +kernel
theorem dX5_pay_80 : decode cX5_pay 80 = .ok (.ldc 72, 2) := by decide +kernel
theorem dX5_pay_82 : decode cX5_pay 82 = .ok (.iconst 1, 1) := by decide +kernel
theorem dX5_pay_83 : decode cX5_pay 83 = .ok (.iload 5, 2) := by decide +kernel
theorem dX5_pay_85 : decode cX5_pay 85 = .ok (.invokestatic 73, 3) := by decide +kernel
theorem dX5_pay_88 : decode cX5_pay 88 = .ok (.ishl, 1) := by decide +kernel
theorem dX5_pay_89 : decode cX5_pay 89 = .ok (.iadd, 1) := by decide +kernel
theorem dX5_pay_90 : decode cX5_pay 90 = .ok (.istore 7, 2) := by decide +kernel
theorem dX5_pay_92 : decode cX5_pay 92 = .ok (.iconst 0, 1) := by decide +kernel
theorem dX5_pay_93 : decode cX5_pay 93 = .ok (.istore 8, 2) := by decide +kernel
theorem dX5_pay_95 : decode cX5_pay 95 = .ok (.iload 8, 2) := by decide +kernel
theorem dX5_pay_97 : decode cX5_pay 97 = .ok (.iload 6, 2) := by decide +kernel
theorem dX5_pay_99 : decode cX5_pay 99 = .ok (.if_icmp .ge 23, 3) := by decide +kernel
theorem dX5_pay_102 : decode cX5_pay 102 = .ok (.aload_n 0, 1) := by decide +kernel
theorem dX5_pay_103 : decode cX5_pay 103 = .ok (.aload_n 1, 1) := by decide +kernel
theorem dX5_pay_104 : decode cX5_pay 104 = .ok (.getfield 43, 3) := by decide +kernel
theorem dX5_pay_107 : decode cX5_pay 107 = .ok (.iload 5, 2) := by decide +kernel
theorem dX5_pay_109 : decode cX5_pay 109 = .ok (.iaload, 1) := by decide +kernel
theorem dX5_pay_110 : decode cX5_pay 110 = .ok (.iload 7, 2) := by decide +kernel
theorem dX5_pay_112 : decode cX5_pay 112 = .ok (.iload_n 3, 1) := by decide +kernel
theorem dX5_pay_113 : decode cX5_pay 113 = .ok (.invokevirtual 77, 3) := by decide +kernel
theorem dX5_pay_116 : decode cX5_pay 116 = .ok (.iinc 8 1, 3) := by decide +kernel
theorem dX5_pay_119 : decode cX5_pay 119 = .ok (.goto (-24), 3) := by decide +kernel
theorem dX5_pay_122 : decode cX5_pay 122 = .ok (.iinc 5 1, 3) := by decide +kernel
theorem dX5_pay_125 : decode cX5_pay 125 = .ok (.goto (-88), 3) := by decide +kernel
theorem dX5_pay_128 : decode cX5_pay 128 = .ok (.aload_n 0, 1) := by decide +kernel
theorem dX5_pay_129 : decode cX5_pay 129 = .ok (.getfield 15, 3) := by decide +kernel
theorem dX5_pay_132 : decode cX5_pay 132 = .ok (.iload_n 3, 1) := by decide +kernel
theorem dX5_pay_133 : decode cX5_pay 133 = .ok (.iaload, 1) := by decide +kernel
theorem dX5_pay_134 : decode cX5_pay 134 = .ok (.ldc 64, 2) := by decide +kernel
theorem dX5_pay_136 : decode cX5_pay 136 = .ok (.if_icmp .ne 8, 3) := by decide +kernel
theorem dX5_pay_139 : decode cX5_pay 139 = .ok (.bipush (-2), 2) := by decide +kernel
theorem dX5_pay_141 : decode cX5_pay 141 = .ok (.goto 17, 3) := by decide +kernel
theorem dX5_pay_144 : decode cX5_pay 144 = .ok (.aload_n 0, 1) := by decide +kernel
theorem dX5_pay_145 : decode cX5_pay 145 = .ok (.aload_n 0, 1) := by decide +kernel
theorem dX5_pay_146 : decode cX5_pay 146 = .ok (.getfield 15, 3) := by decide +kernel
theorem dX5_pay_149 : decode cX5_pay 149 = .ok (.iload_n 3, 1) := by decide +kernel
theorem dX5_pay_150 : decode cX5_pay 150 = .ok (.iaload, 1) := by decide +kernel
theorem dX5_pay_151 : decode cX5_pay 151 = .ok (.aload_n 1, 1) := by decide +kernel
theorem dX5_pay_152 : decode cX5_pay 152 = .ok (.getfield 34, 3) := by decide +kernel
theorem dX5_pay_155 : decode cX5_pay 155 = .ok (.invokevirtual 81, 3) := by decide +kernel
theorem dX5_pay_158 : decode cX5_pay 158 = .ok (.ireturn, 1) := by decide +kernel
theorem dX5_placeOf_0 : decode cX5_placeOf 0 = .ok (.bipush 7, 2) := by decide +kernel
theorem dX5_placeOf_2 : decode cX5_placeOf 2 = .ok (.iload_n 0, 1) := by decide +kernel
theorem dX5_placeOf_3 : decode cX5_placeOf 3 = .ok (.isub, 1) := by decide +kernel
theorem dX5_placeOf_4 : decode cX5_placeOf 4 = .ok (.iconst 3, 1) := by decide +kernel
theorem dX5_placeOf_5 : decode cX5_placeOf 5 = .ok (.imul, 1) := by decide +kernel
theorem dX5_placeOf_6 : decode cX5_placeOf 6 = .ok (.ireturn, 1) := by decide +kernel
theorem dX5_payWithOneMore_0 : decode cX5_payWithOneMore 0 = .ok (.iload_n 3, 1) := by decide +kernel
theorem dX5_payWithOneMore_1 : decode cX5_payWithOneMore 1 = .ok (.istore 4, 2) := by decide +kernel
theorem dX5_payWithOneMore_3 : decode cX5_payWithOneMore 3 = .ok (.iload 4, 2) := by decide +kernel
theorem dX5_payWithOneMore_5 : decode cX5_payWithOneMore 5 = .ok (.iload_n 1, 1) := by decide +kernel
theorem dX5_payWithOneMore_6 : decode cX5_payWithOneMore 6 = .ok (.if_icmp .lt 48, 3) := by decide +kernel
theorem dX5_payWithOneMore_9 : decode cX5_payWithOneMore 9 = .ok (.aload_n 0, 1) := by decide +kernel
theorem dX5_payWithOneMore_10 : decode cX5_payWithOneMore 10 = .ok (.getfield 15, 3) := by decide +kernel
theorem dX5_payWithOneMore_13 : decode cX5_payWithOneMore 13 = .ok (.iload 4, 2) := by decide +kernel
theorem dX5_payWithOneMore_15 : decode cX5_payWithOneMore 15 = .ok (.iload_n 1, 1) := by decide +kernel
theorem dX5_payWithOneMore_16 : decode cX5_payWithOneMore 16 = .ok (.isub, 1) := by decide +kernel
theorem dX5_payWithOneMore_17 : decode cX5_payWithOneMore 17 = .ok (.iaload, 1) := by decide +kernel
theorem dX5_payWithOneMore_18 : decode cX5_payWithOneMore 18 = .ok (.istore 5, 2) := by decide +kernel
theorem dX5_payWithOneMore_20 : decode cX5_payWithOneMore 20 = .ok (.iload 5, 2) := by decide +kernel
theorem dX5_payWithOneMore_22 : decode cX5_payWithOneMore 22 = .ok (.ldc 64, 2) := by decide +kernel
theorem dX5_payWithOneMore_24 : decode cX5_payWithOneMore 24 = .ok (.if_icmp .eq 24, 3) := by decide +kernel
theorem dX5_payWithOneMore_27 : decode cX5_payWithOneMore 27 = .ok (.aload_n 0, 1) := by decide +kernel
theorem dX5_payWithOneMore_28 : decode cX5_payWithOneMore 28 = .ok (.getfield 15, 3) := by decide +kernel
theorem dX5_payWithOneMore_31 : decode cX5_payWithOneMore 31 = .ok (.iload 4, 2) := by decide +kernel
theorem dX5_payWithOneMore_33 : decode cX5_payWithOneMore 33 = .ok (.aload_n 0, 1) := by decide +kernel
theorem dX5_payWithOneMore_34 : decode cX5_payWithOneMore 34 = .ok (.getfield 15, 3) := by decide +kernel
theorem dX5_payWithOneMore_37 : decode cX5_payWithOneMore 37 = .ok (.iload 4, 2) := by decide +kernel
theorem dX5_payWithOneMore_39 : decode cX5_payWithOneMore 39 = .ok (.iaload, 1) := by decide +kernel
theorem dX5_payWithOneMore_40 : decode cX5_payWithOneMore 40 = .ok (.iload 5, 2) := by decide +kernel
theorem dX5_payWithOneMore_42 : decode cX5_payWithOneMore 42 = .ok (.iload_n 2, 1) := by decide +kernel
theorem dX5_payWithOneMore_43 : decode cX5_payWithOneMore 43 = .ok (.iadd, 1) := by decide +kernel
theorem dX5_payWithOneMore_44 : decode cX5_payWithOneMore 44 = .ok (.invokestatic 85, 3) := by decide +kernel
theorem dX5_payWithOneMore_47 : decode cX5_payWithOneMore 47 = .ok (.iastore, 1) := by decide +kernel
theorem dX5_payWithOneMore_48 : decode cX5_payWithOneMore 48 = .ok (.iinc 4 (-1), 3) := by decide +kernel
theorem dX5_payWithOneMore_51 : decode cX5_payWithOneMore 51 = .ok (.goto (-48), 3) := by decide +kernel
theorem dX5_payWithOneMore_54 : decode cX5_payWithOneMore 54 = .ok (.return_, 1) := by decide +kernel
set_option maxRecDepth 20000 in
theorem ggX5_coinsOf_X5_placeOf : GoodIn wsX5_coinsOf wsX5_placeOf := goodIn_r _ [5] rfl (by decide +kernel)
set_option maxRecDepth 20000 in
theorem gX5_coinsOf_X5_placeOf : GoodIn wsX5_coinsOf (va_wsS RX5 73 yX5_placeOf wsX5_placeOf) := goodIn_app (goodIn_r _ [2, 3, 4] rfl (by decide +kernel)) ggX5_coinsOf_X5_placeOf
theorem dX5_coinsOf_0 : decode cX5_coinsOf 0 = .ok (.iconst 0, 1) := by decide +kernel
theorem dX5_coinsOf_1 : decode cX5_coinsOf 1 = .ok (.istore_n 3, 1) := by decide +kernel
theorem dX5_coinsOf_2 : decode cX5_coinsOf 2 = .ok (.iconst 0, 1) := by decide +kernel
theorem dX5_coinsOf_3 : decode cX5_coinsOf 3 = .ok (.istore 4, 2) := by decide +kernel
theorem dX5_coinsOf_5 : decode cX5_coinsOf 5 = .ok (.iload 4, 2) := by decide +kernel
theorem dX5_coinsOf_7 : decode cX5_coinsOf 7 = .ok (.bipush 8, 2) := by decide +kernel
theorem dX5_coinsOf_9 : decode cX5_coinsOf 9 = .ok (.if_icmp .ge 46, 3) := by decide +kernel
theorem dX5_coinsOf_12 : decode cX5_coinsOf 12 = .ok (.aload_n 0, 1) := by decide +kernel
theorem dX5_coinsOf_13 : decode cX5_coinsOf 13 = .ok (.getfield 22, 3) := by decide +kernel
theorem dX5_coinsOf_16 : decode cX5_coinsOf 16 = .ok (.iload 4, 2) := by decide +kernel
theorem dX5_coinsOf_18 : decode cX5_coinsOf 18 = .ok (.iload 4, 2) := by decide +kernel
theorem dX5_coinsOf_20 : decode cX5_coinsOf 20 = .ok (.iload_n 2, 1) := by decide +kernel
theorem dX5_coinsOf_21 : decode cX5_coinsOf 21 = .ok (.if_icmp .ge 16, 3) := by decide +kernel
theorem dX5_coinsOf_24 : decode cX5_coinsOf 24 = .ok (.iload_n 1, 1) := by decide +kernel
theorem dX5_coinsOf_25 : decode cX5_coinsOf 25 = .ok (.iload 4, 2) := by decide +kernel
theorem dX5_coinsOf_27 : decode cX5_coinsOf 27 = .ok (.invokestatic 73, 3) := by decide +kernel
theorem dX5_coinsOf_30 : decode cX5_coinsOf 30 = .ok (.ishr, 1) := by decide +kernel
theorem dX5_coinsOf_31 : decode cX5_coinsOf 31 = .ok (.bipush 7, 2) := by decide +kernel
theorem dX5_coinsOf_33 : decode cX5_coinsOf 33 = .ok (.iand, 1) := by decide +kernel
theorem dX5_coinsOf_34 : decode cX5_coinsOf 34 = .ok (.goto 4, 3) := by decide +kernel
theorem dX5_coinsOf_37 : decode cX5_coinsOf 37 = .ok (.iconst 0, 1) := by decide +kernel
theorem dX5_coinsOf_38 : decode cX5_coinsOf 38 = .ok (.iastore, 1) := by decide +kernel
theorem dX5_coinsOf_39 : decode cX5_coinsOf 39 = .ok (.iload_n 3, 1) := by decide +kernel
theorem dX5_coinsOf_40 : decode cX5_coinsOf 40 = .ok (.aload_n 0, 1) := by decide +kernel
theorem dX5_coinsOf_41 : decode cX5_coinsOf 41 = .ok (.getfield 22, 3) := by decide +kernel
theorem dX5_coinsOf_44 : decode cX5_coinsOf 44 = .ok (.iload 4, 2) := by decide +kernel
theorem dX5_coinsOf_46 : decode cX5_coinsOf 46 = .ok (.iaload, 1) := by decide +kernel
theorem dX5_coinsOf_47 : decode cX5_coinsOf 47 = .ok (.iadd, 1) := by decide +kernel
theorem dX5_coinsOf_48 : decode cX5_coinsOf 48 = .ok (.istore_n 3, 1) := by decide +kernel
theorem dX5_coinsOf_49 : decode cX5_coinsOf 49 = .ok (.iinc 4 1, 3) := by decide +kernel
theorem dX5_coinsOf_52 : decode cX5_coinsOf 52 = .ok (.goto (-47), 3) := by decide +kernel
theorem dX5_coinsOf_55 : decode cX5_coinsOf 55 = .ok (.iload_n 3, 1) := by decide +kernel
theorem dX5_coinsOf_56 : decode cX5_coinsOf 56 = .ok (.ireturn, 1) := by decide +kernel
set_option maxRecDepth 20000 in
theorem ggX5_valueChoices_J7_fill_53178 : GoodIn wsX5_valueChoices wsJ7_fill_53178 := goodIn_r _ [6] rfl (by decide +kernel)
set_option maxRecDepth 20000 in
theorem gX5_valueChoices_J7_fill_53178 : GoodIn wsX5_valueChoices (va_wsS RX5 90 yJ7_fill_53178 wsJ7_fill_53178) := goodIn_app (goodIn_r _ [3, 4, 5] rfl (by decide +kernel)) ggX5_valueChoices_J7_fill_53178
set_option maxRecDepth 20000 in
theorem ggX5_valueChoices_X5_addThing : GoodIn wsX5_valueChoices wsX5_addThing := goodIn_r _ [11, 12, 13, 14, 15, 1, 2, 16, 17, 18, 19, 20, 21, 22, 23] rfl (by decide +kernel)
set_option maxRecDepth 20000 in
theorem gX5_valueChoices_X5_addThing : GoodIn wsX5_valueChoices (wsV RX5 106 RX5 yX5_addThing wsX5_addThing) := goodIn_app (goodIn_r _ [7, 8, 9, 10] rfl (by decide +kernel)) ggX5_valueChoices_X5_addThing
theorem dX5_valueChoices_0 : decode cX5_valueChoices 0 = .ok (.aload_n 0, 1) := by decide +kernel
theorem dX5_valueChoices_1 : decode cX5_valueChoices 1 = .ok (.getfield 19, 3) := by decide +kernel
theorem dX5_valueChoices_4 : decode cX5_valueChoices 4 = .ok (.ldc 64, 2) := by decide +kernel
theorem dX5_valueChoices_6 : decode cX5_valueChoices 6 = .ok (.invokestatic 90, 3) := by decide +kernel
theorem dX5_valueChoices_9 : decode cX5_valueChoices 9 = .ok (.aload_n 0, 1) := by decide +kernel
theorem dX5_valueChoices_10 : decode cX5_valueChoices 10 = .ok (.getfield 19, 3) := by decide +kernel
theorem dX5_valueChoices_13 : decode cX5_valueChoices 13 = .ok (.iconst 0, 1) := by decide +kernel
theorem dX5_valueChoices_14 : decode cX5_valueChoices 14 = .ok (.iconst 0, 1) := by decide +kernel
theorem dX5_valueChoices_15 : decode cX5_valueChoices 15 = .ok (.iastore, 1) := by decide +kernel
theorem dX5_valueChoices_16 : decode cX5_valueChoices 16 = .ok (.iconst 0, 1) := by decide +kernel
theorem dX5_valueChoices_17 : decode cX5_valueChoices 17 = .ok (.istore 4, 2) := by decide +kernel
theorem dX5_valueChoices_19 : decode cX5_valueChoices 19 = .ok (.iload 4, 2) := by decide +kernel
theorem dX5_valueChoices_21 : decode cX5_valueChoices 21 = .ok (.aload_n 1, 1) := by decide +kernel
theorem dX5_valueChoices_22 : decode cX5_valueChoices 22 = .ok (.getfield 93, 3) := by decide +kernel
theorem dX5_valueChoices_25 : decode cX5_valueChoices 25 = .ok (.if_icmp .ge 68, 3) := by decide +kernel
theorem dX5_valueChoices_28 : decode cX5_valueChoices 28 = .ok (.aload_n 1, 1) := by decide +kernel
theorem dX5_valueChoices_29 : decode cX5_valueChoices 29 = .ok (.getfield 96, 3) := by decide +kernel
theorem dX5_valueChoices_32 : decode cX5_valueChoices 32 = .ok (.iload 4, 2) := by decide +kernel
theorem dX5_valueChoices_34 : decode cX5_valueChoices 34 = .ok (.iaload, 1) := by decide +kernel
theorem dX5_valueChoices_35 : decode cX5_valueChoices 35 = .ok (.iload_n 2, 1) := by decide +kernel
theorem dX5_valueChoices_36 : decode cX5_valueChoices 36 = .ok (.if_icmp .ne 13, 3) := by decide +kernel
theorem dX5_valueChoices_39 : decode cX5_valueChoices 39 = .ok (.aload_n 1, 1) := by decide +kernel
theorem dX5_valueChoices_40 : decode cX5_valueChoices 40 = .ok (.getfield 97, 3) := by decide +kernel
theorem dX5_valueChoices_43 : decode cX5_valueChoices 43 = .ok (.iload 4, 2) := by decide +kernel
theorem dX5_valueChoices_45 : decode cX5_valueChoices 45 = .ok (.iaload, 1) := by decide +kernel
theorem dX5_valueChoices_46 : decode cX5_valueChoices 46 = .ok (.goto 4, 3) := by decide +kernel
theorem dX5_valueChoices_49 : decode cX5_valueChoices 49 = .ok (.iconst 0, 1) := by decide +kernel
theorem dX5_valueChoices_50 : decode cX5_valueChoices 50 = .ok (.istore 5, 2) := by decide +kernel
theorem dX5_valueChoices_52 : decode cX5_valueChoices 52 = .ok (.iconst 0, 1) := by decide +kernel
theorem dX5_valueChoices_53 : decode cX5_valueChoices 53 = .ok (.istore 6, 2) := by decide +kernel
theorem dX5_valueChoices_55 : decode cX5_valueChoices 55 = .ok (.iload 6, 2) := by decide +kernel
theorem dX5_valueChoices_57 : decode cX5_valueChoices 57 = .ok (.iload 5, 2) := by decide +kernel
theorem dX5_valueChoices_59 : decode cX5_valueChoices 59 = .ok (.if_icmp .ge 28, 3) := by decide +kernel
theorem dX5_valueChoices_62 : decode cX5_valueChoices 62 = .ok (.aload_n 0, 1) := by decide +kernel
theorem dX5_valueChoices_63 : decode cX5_valueChoices 63 = .ok (.aload_n 1, 1) := by decide +kernel
theorem dX5_valueChoices_64 : decode cX5_valueChoices 64 = .ok (.getfield 100, 3) := by decide +kernel
theorem dX5_valueChoices_67 : decode cX5_valueChoices 67 = .ok (.iload 4, 2) := by decide +kernel
theorem dX5_valueChoices_69 : decode cX5_valueChoices 69 = .ok (.iaload, 1) := by decide +kernel
theorem dX5_valueChoices_70 : decode cX5_valueChoices 70 = .ok (.aload_n 1, 1) := by decide +kernel
theorem dX5_valueChoices_71 : decode cX5_valueChoices 71 = .ok (.getfield 103, 3) := by decide +kernel
theorem dX5_valueChoices_74 : decode cX5_valueChoices 74 = .ok (.iload 4, 2) := by decide +kernel
theorem dX5_valueChoices_76 : decode cX5_valueChoices 76 = .ok (.iaload, 1) := by decide +kernel
theorem dX5_valueChoices_77 : decode cX5_valueChoices 77 = .ok (.iload_n 3, 1) := by decide +kernel
theorem dX5_valueChoices_78 : decode cX5_valueChoices 78 = .ok (.invokevirtual 106, 3) := by decide +kernel
theorem dX5_valueChoices_81 : decode cX5_valueChoices 81 = .ok (.iinc 6 1, 3) := by decide +kernel
theorem dX5_valueChoices_84 : decode cX5_valueChoices 84 = .ok (.goto (-29), 3) := by decide +kernel
theorem dX5_valueChoices_87 : decode cX5_valueChoices 87 = .ok (.iinc 4 1, 3) := by decide +kernel
theorem dX5_valueChoices_90 : decode cX5_valueChoices 90 = .ok (.goto (-71), 3) := by decide +kernel
theorem dX5_valueChoices_93 : decode cX5_valueChoices 93 = .ok (.return_, 1) := by decide +kernel
theorem dX5_addThing_0 : decode cX5_addThing 0 = .ok (.iload_n 3, 1) := by decide +kernel
theorem dX5_addThing_1 : decode cX5_addThing 1 = .ok (.sipush 1920, 3) := by decide +kernel
theorem dX5_addThing_4 : decode cX5_addThing 4 = .ok (.invokestatic 109, 3) := by decide +kernel
theorem dX5_addThing_7 : decode cX5_addThing 7 = .ok (.istore 4, 2) := by decide +kernel
theorem dX5_addThing_9 : decode cX5_addThing 9 = .ok (.iload 4, 2) := by decide +kernel
theorem dX5_addThing_11 : decode cX5_addThing 11 = .ok (.iload_n 1, 1) := by decide +kernel
theorem dX5_addThing_12 : decode cX5_addThing 12 = .ok (.if_icmp .lt 48, 3) := by decide +kernel
theorem dX5_addThing_15 : decode cX5_addThing 15 = .ok (.aload_n 0, 1) := by decide +kernel
theorem dX5_addThing_16 : decode cX5_addThing 16 = .ok (.getfield 19, 3) := by decide +kernel
theorem dX5_addThing_19 : decode cX5_addThing 19 = .ok (.iload 4, 2) := by decide +kernel
theorem dX5_addThing_21 : decode cX5_addThing 21 = .ok (.iload_n 1, 1) := by decide +kernel
theorem dX5_addThing_22 : decode cX5_addThing 22 = .ok (.isub, 1) := by decide +kernel
theorem dX5_addThing_23 : decode cX5_addThing 23 = .ok (.iaload, 1) := by decide +kernel
theorem dX5_addThing_24 : decode cX5_addThing 24 = .ok (.istore 5, 2) := by decide +kernel
theorem dX5_addThing_26 : decode cX5_addThing 26 = .ok (.iload 5, 2) := by decide +kernel
theorem dX5_addThing_28 : decode cX5_addThing 28 = .ok (.ldc 64, 2) := by decide +kernel
theorem dX5_addThing_30 : decode cX5_addThing 30 = .ok (.if_icmp .eq 24, 3) := by decide +kernel
theorem dX5_addThing_33 : decode cX5_addThing 33 = .ok (.aload_n 0, 1) := by decide +kernel
theorem dX5_addThing_34 : decode cX5_addThing 34 = .ok (.getfield 19, 3) := by decide +kernel
theorem dX5_addThing_37 : decode cX5_addThing 37 = .ok (.iload 4, 2) := by decide +kernel
theorem dX5_addThing_39 : decode cX5_addThing 39 = .ok (.aload_n 0, 1) := by decide +kernel
theorem dX5_addThing_40 : decode cX5_addThing 40 = .ok (.getfield 19, 3) := by decide +kernel
theorem dX5_addThing_43 : decode cX5_addThing 43 = .ok (.iload 4, 2) := by decide +kernel
theorem dX5_addThing_45 : decode cX5_addThing 45 = .ok (.iaload, 1) := by decide +kernel
theorem dX5_addThing_46 : decode cX5_addThing 46 = .ok (.iload 5, 2) := by decide +kernel
theorem dX5_addThing_48 : decode cX5_addThing 48 = .ok (.iload_n 2, 1) := by decide +kernel
theorem dX5_addThing_49 : decode cX5_addThing 49 = .ok (.iadd, 1) := by decide +kernel
theorem dX5_addThing_50 : decode cX5_addThing 50 = .ok (.invokestatic 85, 3) := by decide +kernel
theorem dX5_addThing_53 : decode cX5_addThing 53 = .ok (.iastore, 1) := by decide +kernel
theorem dX5_addThing_54 : decode cX5_addThing 54 = .ok (.iinc 4 (-1), 3) := by decide +kernel
theorem dX5_addThing_57 : decode cX5_addThing 57 = .ok (.goto (-48), 3) := by decide +kernel
theorem dX5_addThing_60 : decode cX5_addThing 60 = .ok (.return_, 1) := by decide +kernel
set_option maxRecDepth 20000 in
theorem ggX5_valueAt_X11_within : GoodIn wsX5_valueAt wsX11_within := goodIn_r _ [4] rfl (by decide +kernel)
set_option maxRecDepth 20000 in
theorem gX5_valueAt_X11_within_n60 : GoodIn wsX5_valueAt (wsX11_within) := ggX5_valueAt_X11_within
theorem dX5_valueAt_0 : decode cX5_valueAt 0 = .ok (.iload_n 1, 1) := by decide +kernel
theorem dX5_valueAt_1 : decode cX5_valueAt 1 = .ok (.iconst 0, 1) := by decide +kernel
theorem dX5_valueAt_2 : decode cX5_valueAt 2 = .ok (.sipush 1920, 3) := by decide +kernel
theorem dX5_valueAt_5 : decode cX5_valueAt 5 = .ok (.invokestatic 60, 3) := by decide +kernel
theorem dX5_valueAt_8 : decode cX5_valueAt 8 = .ok (.ifCond .eq 12, 3) := by decide +kernel
theorem dX5_valueAt_11 : decode cX5_valueAt 11 = .ok (.aload_n 0, 1) := by decide +kernel
theorem dX5_valueAt_12 : decode cX5_valueAt 12 = .ok (.getfield 19, 3) := by decide +kernel
theorem dX5_valueAt_15 : decode cX5_valueAt 15 = .ok (.iload_n 1, 1) := by decide +kernel
theorem dX5_valueAt_16 : decode cX5_valueAt 16 = .ok (.iaload, 1) := by decide +kernel
theorem dX5_valueAt_17 : decode cX5_valueAt 17 = .ok (.goto 4, 3) := by decide +kernel
theorem dX5_valueAt_20 : decode cX5_valueAt 20 = .ok (.iconst 0, 1) := by decide +kernel
theorem dX5_valueAt_21 : decode cX5_valueAt 21 = .ok (.ireturn, 1) := by decide +kernel
set_option maxRecDepth 20000 in
theorem ggX5_greatestChoice_X5_can : GoodIn wsX5_greatestChoice wsX5_can := goodIn_r _ [11, 12, 13, 14, 15, 16, 17] rfl (by decide +kernel)
set_option maxRecDepth 20000 in
theorem gX5_greatestChoice_X5_can : GoodIn wsX5_greatestChoice (wsV RX5 56 RX5 yX5_can wsX5_can) := goodIn_app (goodIn_r _ [7, 8, 9, 10] rfl (by decide +kernel)) ggX5_greatestChoice_X5_can
theorem dX5_greatestChoice_0 : decode cX5_greatestChoice 0 = .ok (.iload_n 1, 1) := by decide +kernel
theorem dX5_greatestChoice_1 : decode cX5_greatestChoice 1 = .ok (.sipush 1920, 3) := by decide +kernel
theorem dX5_greatestChoice_4 : decode cX5_greatestChoice 4 = .ok (.invokestatic 109, 3) := by decide +kernel
theorem dX5_greatestChoice_7 : decode cX5_greatestChoice 7 = .ok (.istore_n 2, 1) := by decide +kernel
theorem dX5_greatestChoice_8 : decode cX5_greatestChoice 8 = .ok (.iload_n 2, 1) := by decide +kernel
theorem dX5_greatestChoice_9 : decode cX5_greatestChoice 9 = .ok (.ifCond .le 30, 3) := by decide +kernel
theorem dX5_greatestChoice_12 : decode cX5_greatestChoice 12 = .ok (.aload_n 0, 1) := by decide +kernel
theorem dX5_greatestChoice_13 : decode cX5_greatestChoice 13 = .ok (.getfield 19, 3) := by decide +kernel
theorem dX5_greatestChoice_16 : decode cX5_greatestChoice 16 = .ok (.iload_n 2, 1) := by decide +kernel
theorem dX5_greatestChoice_17 : decode cX5_greatestChoice 17 = .ok (.iaload, 1) := by decide +kernel
theorem dX5_greatestChoice_18 : decode cX5_greatestChoice 18 = .ok (.ldc 64, 2) := by decide +kernel
theorem dX5_greatestChoice_20 : decode cX5_greatestChoice 20 = .ok (.if_icmp .eq 13, 3) := by decide +kernel
theorem dX5_greatestChoice_23 : decode cX5_greatestChoice 23 = .ok (.aload_n 0, 1) := by decide +kernel
theorem dX5_greatestChoice_24 : decode cX5_greatestChoice 24 = .ok (.iload_n 2, 1) := by decide +kernel
theorem dX5_greatestChoice_25 : decode cX5_greatestChoice 25 = .ok (.invokevirtual 56, 3) := by decide +kernel
theorem dX5_greatestChoice_28 : decode cX5_greatestChoice 28 = .ok (.ifCond .eq 5, 3) := by decide +kernel
theorem dX5_greatestChoice_31 : decode cX5_greatestChoice 31 = .ok (.iload_n 2, 1) := by decide +kernel
theorem dX5_greatestChoice_32 : decode cX5_greatestChoice 32 = .ok (.ireturn, 1) := by decide +kernel
theorem dX5_greatestChoice_33 : decode cX5_greatestChoice 33 = .ok (.iinc 2 (-1), 3) := by decide +kernel
theorem dX5_greatestChoice_36 : decode cX5_greatestChoice 36 = .ok (.goto (-28), 3) := by decide +kernel
theorem dX5_greatestChoice_39 : decode cX5_greatestChoice 39 = .ok (.iconst 0, 1) := by decide +kernel
theorem dX5_greatestChoice_40 : decode cX5_greatestChoice 40 = .ok (.ireturn, 1) := by decide +kernel
set_option maxRecDepth 20000 in
theorem ggX5_dearestChoice_X5_can : GoodIn wsX5_dearestChoice wsX5_can := goodIn_r _ [6, 7, 8, 9, 10, 11, 12] rfl (by decide +kernel)
set_option maxRecDepth 20000 in
theorem gX5_dearestChoice_X5_can : GoodIn wsX5_dearestChoice (wsV RX5 56 RX5 yX5_can wsX5_can) := goodIn_app (goodIn_r _ [2, 3, 4, 5] rfl (by decide +kernel)) ggX5_dearestChoice_X5_can
theorem dX5_dearestChoice_0 : decode cX5_dearestChoice 0 = .ok (.iconst 0, 1) := by decide +kernel
theorem dX5_dearestChoice_1 : decode cX5_dearestChoice 1 = .ok (.istore_n 2, 1) := by decide +kernel
theorem dX5_dearestChoice_2 : decode cX5_dearestChoice 2 = .ok (.iconst 1, 1) := by decide +kernel
theorem dX5_dearestChoice_3 : decode cX5_dearestChoice 3 = .ok (.istore_n 3, 1) := by decide +kernel
theorem dX5_dearestChoice_4 : decode cX5_dearestChoice 4 = .ok (.iload_n 3, 1) := by decide +kernel
theorem dX5_dearestChoice_5 : decode cX5_dearestChoice 5 = .ok (.iload_n 1, 1) := by decide +kernel
theorem dX5_dearestChoice_6 : decode cX5_dearestChoice 6 = .ok (.if_icmp .gt 41, 3) := by decide +kernel
theorem dX5_dearestChoice_9 : decode cX5_dearestChoice 9 = .ok (.iload_n 3, 1) := by decide +kernel
theorem dX5_dearestChoice_10 : decode cX5_dearestChoice 10 = .ok (.sipush 1920, 3) := by decide +kernel
theorem dX5_dearestChoice_13 : decode cX5_dearestChoice 13 = .ok (.if_icmp .gt 34, 3) := by decide +kernel
theorem dX5_dearestChoice_16 : decode cX5_dearestChoice 16 = .ok (.aload_n 0, 1) := by decide +kernel
theorem dX5_dearestChoice_17 : decode cX5_dearestChoice 17 = .ok (.getfield 19, 3) := by decide +kernel
theorem dX5_dearestChoice_20 : decode cX5_dearestChoice 20 = .ok (.iload_n 3, 1) := by decide +kernel
theorem dX5_dearestChoice_21 : decode cX5_dearestChoice 21 = .ok (.iaload, 1) := by decide +kernel
theorem dX5_dearestChoice_22 : decode cX5_dearestChoice 22 = .ok (.aload_n 0, 1) := by decide +kernel
theorem dX5_dearestChoice_23 : decode cX5_dearestChoice 23 = .ok (.getfield 19, 3) := by decide +kernel
theorem dX5_dearestChoice_26 : decode cX5_dearestChoice 26 = .ok (.iload_n 2, 1) := by decide +kernel
theorem dX5_dearestChoice_27 : decode cX5_dearestChoice 27 = .ok (.iaload, 1) := by decide +kernel
theorem dX5_dearestChoice_28 : decode cX5_dearestChoice 28 = .ok (.if_icmp .le 13, 3) := by decide +kernel
theorem dX5_dearestChoice_31 : decode cX5_dearestChoice 31 = .ok (.aload_n 0, 1) := by decide +kernel
theorem dX5_dearestChoice_32 : decode cX5_dearestChoice 32 = .ok (.iload_n 3, 1) := by decide +kernel
theorem dX5_dearestChoice_33 : decode cX5_dearestChoice 33 = .ok (.invokevirtual 56, 3) := by decide +kernel
theorem dX5_dearestChoice_36 : decode cX5_dearestChoice 36 = .ok (.ifCond .eq 5, 3) := by decide +kernel
theorem dX5_dearestChoice_39 : decode cX5_dearestChoice 39 = .ok (.iload_n 3, 1) := by decide +kernel
theorem dX5_dearestChoice_40 : decode cX5_dearestChoice 40 = .ok (.istore_n 2, 1) := by decide +kernel
theorem dX5_dearestChoice_41 : decode cX5_dearestChoice 41 = .ok (.iinc 3 1, 3) := by decide +kernel
theorem dX5_dearestChoice_44 : decode cX5_dearestChoice 44 = .ok (.goto (-40), 3) := by decide +kernel
theorem dX5_dearestChoice_47 : decode cX5_dearestChoice 47 = .ok (.iload_n 2, 1) := by decide +kernel
theorem dX5_dearestChoice_48 : decode cX5_dearestChoice 48 = .ok (.ireturn, 1) := by decide +kernel
theorem dX6_init_0 : decode cX6_init 0 = .ok (.aload_n 0, 1) := by decide +kernel
theorem dX6_init_1 : decode cX6_init 1 = .ok (.invokespecial 3, 3) := by decide +kernel
theorem dX6_init_4 : decode cX6_init 4 = .ok (.aload_n 0, 1) := by decide +kernel
theorem dX6_init_5 : decode cX6_init 5 = .ok (.bipush 120, 2) := by decide +kernel
theorem dX6_init_7 : decode cX6_init 7 = .ok (.newarray .int, 2) := by decide +kernel
theorem dX6_init_9 : decode cX6_init 9 = .ok (.putfield 9, 3) := by decide +kernel
theorem dX6_init_12 : decode cX6_init 12 = .ok (.aload_n 0, 1) := by decide +kernel
theorem dX6_init_13 : decode cX6_init 13 = .ok (.sipush 128, 3) := by decide +kernel
theorem dX6_init_16 : decode cX6_init 16 = .ok (.newarray .int, 2) := by decide +kernel
theorem dX6_init_18 : decode cX6_init 18 = .ok (.putfield 15, 3) := by decide +kernel
theorem dX6_init_21 : decode cX6_init 21 = .ok (.return_, 1) := by decide +kernel
theorem dX6_add_0 : decode cX6_add 0 = .ok (.aload_n 0, 1) := by decide +kernel
theorem dX6_add_1 : decode cX6_add 1 = .ok (.getfield 18, 3) := by decide +kernel
theorem dX6_add_4 : decode cX6_add 4 = .ok (.bipush 120, 2) := by decide +kernel
theorem dX6_add_6 : decode cX6_add 6 = .ok (.if_icmp .lt 6, 3) := by decide +kernel
theorem dX6_add_9 : decode cX6_add 9 = .ok (.bipush (-3), 2) := by decide +kernel
theorem dX6_add_11 : decode cX6_add 11 = .ok (.ireturn, 1) := by decide +kernel
theorem dX6_add_12 : decode cX6_add 12 = .ok (.aload_n 0, 1) := by decide +kernel
theorem dX6_add_13 : decode cX6_add 13 = .ok (.getfield 9, 3) := by decide +kernel
theorem dX6_add_16 : decode cX6_add 16 = .ok (.aload_n 0, 1) := by decide +kernel
theorem dX6_add_17 : decode cX6_add 17 = .ok (.getfield 18, 3) := by decide +kernel
theorem dX6_add_20 : decode cX6_add 20 = .ok (.iload_n 1, 1) := by decide +kernel
theorem dX6_add_21 : decode cX6_add 21 = .ok (.iastore, 1) := by decide +kernel
theorem dX6_add_22 : decode cX6_add 22 = .ok (.aload_n 0, 1) := by decide +kernel
theorem dX6_add_23 : decode cX6_add 23 = .ok (.dup, 1) := by decide +kernel
theorem dX6_add_24 : decode cX6_add 24 = .ok (.getfield 18, 3) := by decide +kernel
theorem dX6_add_27 : decode cX6_add 27 = .ok (.iconst 1, 1) := by decide +kernel
theorem dX6_add_28 : decode cX6_add 28 = .ok (.iadd, 1) := by decide +kernel
theorem dX6_add_29 : decode cX6_add 29 = .ok (.putfield 18, 3) := by decide +kernel
theorem dX6_add_32 : decode cX6_add 32 = .ok (.aload_n 0, 1) := by decide +kernel
theorem dX6_add_33 : decode cX6_add 33 = .ok (.getfield 18, 3) := by decide +kernel
theorem dX6_add_36 : decode cX6_add 36 = .ok (.ireturn, 1) := by decide +kernel
set_option maxRecDepth 20000 in
theorem ggX6_parse_X6_readLine : GoodIn wsX6_parse wsX6_readLine := goodIn_r _ [9, 10, 11, 12, 8, 13, 14, 15, 16, 17, 3, 1, 18, 19, 20, 21, 22, 23, 24, 4, 25, 26, 27, 28, 29, 30, 31, 32, 33, 34, 35, 36, 37, 38, 39, 40, 41, 42, 43, 44, 45, 46, 47, 2, 48, 49, 50, 51, 52, 53, 54, 55, 56, 57, 58, 59] rfl (by decide +kernel)
set_option maxRecDepth 20000 in
theorem gX6_parse_X6_readLine : GoodIn wsX6_parse (wsV RX6 31 RX6 yX6_readLine wsX6_readLine) := goodIn_app (goodIn_r _ [5, 6, 7, 8] rfl (by decide +kernel)) ggX6_parse_X6_readLine
set_option maxRecDepth 20000 in
theorem ggX6_parse_X6_goesOnWith : GoodIn wsX6_parse wsX6_goesOnWith := goodIn_r _ [52, 1, 21, 22, 23, 8, 24, 3, 4, 25, 54, 55, 56, 57, 58, 59] rfl (by decide +kernel)
set_option maxRecDepth 20000 in
theorem gX6_parse_X6_goesOnWith : GoodIn wsX6_parse (wsV RX6 34 RX6 yX6_goesOnWith wsX6_goesOnWith) := goodIn_app (goodIn_r _ [49, 50, 51, 8] rfl (by decide +kernel)) ggX6_parse_X6_goesOnWith
set_option maxRecDepth 20000 in
theorem ggX6_parse_X6_fail : GoodIn wsX6_parse wsX6_fail := goodIn_r _ [17, 3, 1, 54, 55, 56, 57, 58, 59] rfl (by decide +kernel)
set_option maxRecDepth 20000 in
theorem gX6_parse_X6_fail : GoodIn wsX6_parse (wsV RX6 38 RX6 yX6_fail wsX6_fail) := goodIn_app (goodIn_r _ [14, 15, 16, 8] rfl (by decide +kernel)) ggX6_parse_X6_fail
theorem dX6_parse_0 : decode cX6_parse 0 = .ok (.aload_n 0, 1) := by decide +kernel
theorem dX6_parse_1 : decode cX6_parse 1 = .ok (.iconst 0, 1) := by decide +kernel
theorem dX6_parse_2 : decode cX6_parse 2 = .ok (.putfield 22, 3) := by decide +kernel
theorem dX6_parse_5 : decode cX6_parse 5 = .ok (.aload_n 0, 1) := by decide +kernel
theorem dX6_parse_6 : decode cX6_parse 6 = .ok (.iconst 0, 1) := by decide +kernel
theorem dX6_parse_7 : decode cX6_parse 7 = .ok (.putfield 25, 3) := by decide +kernel
theorem dX6_parse_10 : decode cX6_parse 10 = .ok (.aload_n 0, 1) := by decide +kernel
theorem dX6_parse_11 : decode cX6_parse 11 = .ok (.iconst (-1), 1) := by decide +kernel
theorem dX6_parse_12 : decode cX6_parse 12 = .ok (.putfield 28, 3) := by decide +kernel
theorem dX6_parse_15 : decode cX6_parse 15 = .ok (.aload_n 0, 1) := by decide +kernel
theorem dX6_parse_16 : decode cX6_parse 16 = .ok (.invokevirtual 31, 3) := by decide +kernel
theorem dX6_parse_19 : decode cX6_parse 19 = .ok (.iconst 0, 1) := by decide +kernel
theorem dX6_parse_20 : decode cX6_parse 20 = .ok (.istore_n 1, 1) := by decide +kernel
theorem dX6_parse_21 : decode cX6_parse 21 = .ok (.iload_n 1, 1) := by decide +kernel
theorem dX6_parse_22 : decode cX6_parse 22 = .ok (.bipush 120, 2) := by decide +kernel
theorem dX6_parse_24 : decode cX6_parse 24 = .ok (.if_icmp .ge 22, 3) := by decide +kernel
theorem dX6_parse_27 : decode cX6_parse 27 = .ok (.aload_n 0, 1) := by decide +kernel
theorem dX6_parse_28 : decode cX6_parse 28 = .ok (.bipush 59, 2) := by decide +kernel
theorem dX6_parse_30 : decode cX6_parse 30 = .ok (.invokevirtual 34, 3) := by decide +kernel
theorem dX6_parse_33 : decode cX6_parse 33 = .ok (.ifCond .eq 13, 3) := by decide +kernel
theorem dX6_parse_36 : decode cX6_parse 36 = .ok (.aload_n 0, 1) := by decide +kernel
theorem dX6_parse_37 : decode cX6_parse 37 = .ok (.invokevirtual 31, 3) := by decide +kernel
theorem dX6_parse_40 : decode cX6_parse 40 = .ok (.iinc 1 1, 3) := by decide +kernel
theorem dX6_parse_43 : decode cX6_parse 43 = .ok (.goto (-22), 3) := by decide +kernel
theorem dX6_parse_46 : decode cX6_parse 46 = .ok (.aload_n 0, 1) := by decide +kernel
theorem dX6_parse_47 : decode cX6_parse 47 = .ok (.getfield 22, 3) := by decide +kernel
theorem dX6_parse_50 : decode cX6_parse 50 = .ok (.aload_n 0, 1) := by decide +kernel
theorem dX6_parse_51 : decode cX6_parse 51 = .ok (.getfield 18, 3) := by decide +kernel
theorem dX6_parse_54 : decode cX6_parse 54 = .ok (.if_icmp .ge 7, 3) := by decide +kernel
theorem dX6_parse_57 : decode cX6_parse 57 = .ok (.aload_n 0, 1) := by decide +kernel
theorem dX6_parse_58 : decode cX6_parse 58 = .ok (.invokevirtual 38, 3) := by decide +kernel
theorem dX6_parse_61 : decode cX6_parse 61 = .ok (.aload_n 0, 1) := by decide +kernel
theorem dX6_parse_62 : decode cX6_parse 62 = .ok (.iconst 0, 1) := by decide +kernel
theorem dX6_parse_63 : decode cX6_parse 63 = .ok (.putfield 18, 3) := by decide +kernel
theorem dX6_parse_66 : decode cX6_parse 66 = .ok (.aload_n 0, 1) := by decide +kernel
theorem dX6_parse_67 : decode cX6_parse 67 = .ok (.getfield 28, 3) := by decide +kernel
theorem dX6_parse_70 : decode cX6_parse 70 = .ok (.ireturn, 1) := by decide +kernel
theorem dX6_next_0 : decode cX6_next 0 = .ok (.aload_n 0, 1) := by decide +kernel
theorem dX6_next_1 : decode cX6_next 1 = .ok (.getfield 28, 3) := by decide +kernel
theorem dX6_next_4 : decode cX6_next 4 = .ok (.ifCond .ge 42, 3) := by decide +kernel
theorem dX6_next_7 : decode cX6_next 7 = .ok (.aload_n 0, 1) := by decide +kernel
theorem dX6_next_8 : decode cX6_next 8 = .ok (.getfield 22, 3) := by decide +kernel
theorem dX6_next_11 : decode cX6_next 11 = .ok (.ifCond .lt 35, 3) := by decide +kernel
theorem dX6_next_14 : decode cX6_next 14 = .ok (.aload_n 0, 1) := by decide +kernel
theorem dX6_next_15 : decode cX6_next 15 = .ok (.getfield 22, 3) := by decide +kernel
theorem dX6_next_18 : decode cX6_next 18 = .ok (.aload_n 0, 1) := by decide +kernel
theorem dX6_next_19 : decode cX6_next 19 = .ok (.getfield 18, 3) := by decide +kernel
theorem dX6_next_22 : decode cX6_next 22 = .ok (.if_icmp .ge 24, 3) := by decide +kernel
theorem dX6_next_25 : decode cX6_next 25 = .ok (.aload_n 0, 1) := by decide +kernel
theorem dX6_next_26 : decode cX6_next 26 = .ok (.getfield 22, 3) := by decide +kernel
theorem dX6_next_29 : decode cX6_next 29 = .ok (.bipush 120, 2) := by decide +kernel
theorem dX6_next_31 : decode cX6_next 31 = .ok (.if_icmp .ge 15, 3) := by decide +kernel
theorem dX6_next_34 : decode cX6_next 34 = .ok (.aload_n 0, 1) := by decide +kernel
theorem dX6_next_35 : decode cX6_next 35 = .ok (.getfield 9, 3) := by decide +kernel
theorem dX6_next_38 : decode cX6_next 38 = .ok (.aload_n 0, 1) := by decide +kernel
theorem dX6_next_39 : decode cX6_next 39 = .ok (.getfield 22, 3) := by decide +kernel
theorem dX6_next_42 : decode cX6_next 42 = .ok (.iaload, 1) := by decide +kernel
theorem dX6_next_43 : decode cX6_next 43 = .ok (.goto 4, 3) := by decide +kernel
theorem dX6_next_46 : decode cX6_next 46 = .ok (.iconst (-1), 1) := by decide +kernel
theorem dX6_next_47 : decode cX6_next 47 = .ok (.ireturn, 1) := by decide +kernel
set_option maxRecDepth 20000 in
theorem ggX6_goesOnWith_X6_next : GoodIn wsX6_goesOnWith wsX6_next := goodIn_r _ [6, 7, 1, 8, 9, 10, 11, 12, 13, 14, 15] rfl (by decide +kernel)
set_option maxRecDepth 20000 in
theorem gX6_goesOnWith_X6_next : GoodIn wsX6_goesOnWith (wsV RX6 41 RX6 yX6_next wsX6_next) := goodIn_app (goodIn_r _ [2, 3, 4, 5] rfl (by decide +kernel)) ggX6_goesOnWith_X6_next
theorem dX6_goesOnWith_0 : decode cX6_goesOnWith 0 = .ok (.aload_n 0, 1) := by decide +kernel
theorem dX6_goesOnWith_1 : decode cX6_goesOnWith 1 = .ok (.invokevirtual 41, 3) := by decide +kernel
theorem dX6_goesOnWith_4 : decode cX6_goesOnWith 4 = .ok (.iload_n 1, 1) := by decide +kernel
theorem dX6_goesOnWith_5 : decode cX6_goesOnWith 5 = .ok (.if_icmp .eq 5, 3) := by decide +kernel
theorem dX6_goesOnWith_8 : decode cX6_goesOnWith 8 = .ok (.iconst 0, 1) := by decide +kernel
theorem dX6_goesOnWith_9 : decode cX6_goesOnWith 9 = .ok (.ireturn, 1) := by decide +kernel
theorem dX6_goesOnWith_10 : decode cX6_goesOnWith 10 = .ok (.aload_n 0, 1) := by decide +kernel
theorem dX6_goesOnWith_11 : decode cX6_goesOnWith 11 = .ok (.dup, 1) := by decide +kernel
theorem dX6_goesOnWith_12 : decode cX6_goesOnWith 12 = .ok (.getfield 22, 3) := by decide +kernel
theorem dX6_goesOnWith_15 : decode cX6_goesOnWith 15 = .ok (.iconst 1, 1) := by decide +kernel
theorem dX6_goesOnWith_16 : decode cX6_goesOnWith 16 = .ok (.iadd, 1) := by decide +kernel
theorem dX6_goesOnWith_17 : decode cX6_goesOnWith 17 = .ok (.putfield 22, 3) := by decide +kernel
theorem dX6_goesOnWith_20 : decode cX6_goesOnWith 20 = .ok (.iconst 1, 1) := by decide +kernel
theorem dX6_goesOnWith_21 : decode cX6_goesOnWith 21 = .ok (.ireturn, 1) := by decide +kernel
theorem dX6_fail_0 : decode cX6_fail 0 = .ok (.aload_n 0, 1) := by decide +kernel
theorem dX6_fail_1 : decode cX6_fail 1 = .ok (.getfield 28, 3) := by decide +kernel
theorem dX6_fail_4 : decode cX6_fail 4 = .ok (.ifCond .ge 11, 3) := by decide +kernel
theorem dX6_fail_7 : decode cX6_fail 7 = .ok (.aload_n 0, 1) := by decide +kernel
theorem dX6_fail_8 : decode cX6_fail 8 = .ok (.aload_n 0, 1) := by decide +kernel
theorem dX6_fail_9 : decode cX6_fail 9 = .ok (.getfield 22, 3) := by decide +kernel
theorem dX6_fail_12 : decode cX6_fail 12 = .ok (.putfield 28, 3) := by decide +kernel
theorem dX6_fail_15 : decode cX6_fail 15 = .ok (.return_, 1) := by decide +kernel
theorem dX6_write_0 : decode cX6_write 0 = .ok (.aload_n 0, 1) := by decide +kernel
theorem dX6_write_1 : decode cX6_write 1 = .ok (.getfield 25, 3) := by decide +kernel
theorem dX6_write_4 : decode cX6_write 4 = .ok (.sipush 128, 3) := by decide +kernel
theorem dX6_write_7 : decode cX6_write 7 = .ok (.if_icmp .ge 23, 3) := by decide +kernel
theorem dX6_write_10 : decode cX6_write 10 = .ok (.aload_n 0, 1) := by decide +kernel
theorem dX6_write_11 : decode cX6_write 11 = .ok (.getfield 15, 3) := by decide +kernel
theorem dX6_write_14 : decode cX6_write 14 = .ok (.aload_n 0, 1) := by decide +kernel
theorem dX6_write_15 : decode cX6_write 15 = .ok (.getfield 25, 3) := by decide +kernel
theorem dX6_write_18 : decode cX6_write 18 = .ok (.iload_n 1, 1) := by decide +kernel
theorem dX6_write_19 : decode cX6_write 19 = .ok (.iastore, 1) := by decide +kernel
theorem dX6_write_20 : decode cX6_write 20 = .ok (.aload_n 0, 1) := by decide +kernel
theorem dX6_write_21 : decode cX6_write 21 = .ok (.dup, 1) := by decide +kernel
theorem dX6_write_22 : decode cX6_write 22 = .ok (.getfield 25, 3) := by decide +kernel
theorem dX6_write_25 : decode cX6_write 25 = .ok (.iconst 1, 1) := by decide +kernel
theorem dX6_write_26 : decode cX6_write 26 = .ok (.iadd, 1) := by decide +kernel
theorem dX6_write_27 : decode cX6_write 27 = .ok (.putfield 25, 3) := by decide +kernel
theorem dX6_write_30 : decode cX6_write 30 = .ok (.return_, 1) := by decide +kernel
set_option maxRecDepth 20000 in
theorem ggX6_readLine_X6_readJoined : GoodIn wsX6_readLine wsX6_readJoined := goodIn_r _ [5, 6, 7, 8, 4, 9, 10, 11, 12, 13, 14, 15, 16, 17, 18, 19, 20, 21, 22, 23, 24, 25, 26, 27, 28, 29, 30, 31, 32, 33, 34, 35, 36, 37, 38, 39, 40, 41, 42, 43, 44, 45, 46, 47, 48, 1, 2, 3, 49, 50, 51, 52, 53, 54, 55] rfl (by decide +kernel)
set_option maxRecDepth 20000 in
theorem gX6_readLine_X6_readJoined : GoodIn wsX6_readLine (wsV RX6 45 RX6 yX6_readJoined wsX6_readJoined) := goodIn_app (goodIn_r _ [1, 2, 3, 4] rfl (by decide +kernel)) ggX6_readLine_X6_readJoined
set_option maxRecDepth 20000 in
theorem ggX6_readLine_X6_goesOnWith : GoodIn wsX6_readLine wsX6_goesOnWith := goodIn_r _ [48, 11, 15, 16, 17, 4, 18, 10, 19, 20, 50, 51, 52, 53, 54, 55] rfl (by decide +kernel)
set_option maxRecDepth 20000 in
theorem gX6_readLine_X6_goesOnWith : GoodIn wsX6_readLine (wsV RX6 34 RX6 yX6_goesOnWith wsX6_goesOnWith) := goodIn_app (goodIn_r _ [45, 46, 47, 4] rfl (by decide +kernel)) ggX6_readLine_X6_goesOnWith
set_option maxRecDepth 20000 in
theorem ggX6_readLine_X6_write : GoodIn wsX6_readLine wsX6_write := goodIn_r _ [42, 43, 44, 50, 51, 52, 53, 54, 55] rfl (by decide +kernel)
set_option maxRecDepth 20000 in
theorem gX6_readLine_X6_write : GoodIn wsX6_readLine (wsV RX6 51 RX6 yX6_write wsX6_write) := goodIn_app (goodIn_r _ [39, 40, 41, 4] rfl (by decide +kernel)) ggX6_readLine_X6_write
theorem dX6_readLine_0 : decode cX6_readLine 0 = .ok (.aload_n 0, 1) := by decide +kernel
theorem dX6_readLine_1 : decode cX6_readLine 1 = .ok (.iconst 1, 1) := by decide +kernel
theorem dX6_readLine_2 : decode cX6_readLine 2 = .ok (.iconst 0, 1) := by decide +kernel
theorem dX6_readLine_3 : decode cX6_readLine 3 = .ok (.invokevirtual 45, 3) := by decide +kernel
theorem dX6_readLine_6 : decode cX6_readLine 6 = .ok (.aload_n 0, 1) := by decide +kernel
theorem dX6_readLine_7 : decode cX6_readLine 7 = .ok (.bipush 63, 2) := by decide +kernel
theorem dX6_readLine_9 : decode cX6_readLine 9 = .ok (.invokevirtual 34, 3) := by decide +kernel
theorem dX6_readLine_12 : decode cX6_readLine 12 = .ok (.ifCond .eq 19, 3) := by decide +kernel
theorem dX6_readLine_15 : decode cX6_readLine 15 = .ok (.aload_n 0, 1) := by decide +kernel
theorem dX6_readLine_16 : decode cX6_readLine 16 = .ok (.iconst 1, 1) := by decide +kernel
theorem dX6_readLine_17 : decode cX6_readLine 17 = .ok (.iconst 0, 1) := by decide +kernel
theorem dX6_readLine_18 : decode cX6_readLine 18 = .ok (.invokevirtual 45, 3) := by decide +kernel
theorem dX6_readLine_21 : decode cX6_readLine 21 = .ok (.aload_n 0, 1) := by decide +kernel
theorem dX6_readLine_22 : decode cX6_readLine 22 = .ok (.sipush 20001, 3) := by decide +kernel
theorem dX6_readLine_25 : decode cX6_readLine 25 = .ok (.invokevirtual 51, 3) := by decide +kernel
theorem dX6_readLine_28 : decode cX6_readLine 28 = .ok (.goto 10, 3) := by decide +kernel
theorem dX6_readLine_31 : decode cX6_readLine 31 = .ok (.aload_n 0, 1) := by decide +kernel
theorem dX6_readLine_32 : decode cX6_readLine 32 = .ok (.sipush 20000, 3) := by decide +kernel
theorem dX6_readLine_35 : decode cX6_readLine 35 = .ok (.invokevirtual 51, 3) := by decide +kernel
theorem dX6_readLine_38 : decode cX6_readLine 38 = .ok (.return_, 1) := by decide +kernel
set_option maxRecDepth 20000 in
theorem ggX6_readJoined_X6_fail : GoodIn wsX6_readJoined wsX6_fail := goodIn_r _ [5, 6, 7, 49, 50, 51, 52, 53, 54] rfl (by decide +kernel)
set_option maxRecDepth 20000 in
theorem gX6_readJoined_X6_fail : GoodIn wsX6_readJoined (wsV RX6 38 RX6 yX6_fail wsX6_fail) := goodIn_app (goodIn_r _ [1, 2, 3, 4] rfl (by decide +kernel)) ggX6_readJoined_X6_fail
set_option maxRecDepth 20000 in
theorem ggX6_readJoined_X6_readOperand : GoodIn wsX6_readJoined wsX6_readOperand := goodIn_r _ [23, 7, 11, 12, 13, 4, 14, 6, 15, 16, 24, 25, 26, 27, 28, 29, 30, 31, 32, 33, 34, 35, 36, 37, 38, 39, 40, 1, 2, 3, 5, 41, 42, 43, 44, 45, 46, 47, 0, 8, 9, 10, 17, 18, 19, 20, 21, 22, 48, 49, 50, 51, 52, 53, 54] rfl (by decide +kernel)
set_option maxRecDepth 20000 in
theorem gX6_readJoined_X6_readOperand : GoodIn wsX6_readJoined (wsV RX6 55 RX6 yX6_readOperand wsX6_readOperand) := goodIn_app (goodIn_r _ [8, 9, 10, 4] rfl (by decide +kernel)) ggX6_readJoined_X6_readOperand
set_option maxRecDepth 20000 in
theorem ggX6_readJoined_X6_next : GoodIn wsX6_readJoined wsX6_next := goodIn_r _ [14, 6, 7, 15, 16, 49, 50, 51, 52, 53, 54] rfl (by decide +kernel)
set_option maxRecDepth 20000 in
theorem gX6_readJoined_X6_next : GoodIn wsX6_readJoined (wsV RX6 41 RX6 yX6_next wsX6_next) := goodIn_app (goodIn_r _ [11, 12, 13, 4] rfl (by decide +kernel)) ggX6_readJoined_X6_next
set_option maxRecDepth 20000 in
theorem ggX6_readJoined_X6_rankOf : GoodIn wsX6_readJoined wsX6_rankOf := goodIn_r _ [19] rfl (by decide +kernel)
set_option maxRecDepth 20000 in
theorem gX6_readJoined_X6_rankOf : GoodIn wsX6_readJoined (va_wsS RX6 58 yX6_rankOf wsX6_rankOf) := goodIn_app (goodIn_r _ [17, 18, 4] rfl (by decide +kernel)) ggX6_readJoined_X6_rankOf
set_option maxRecDepth 20000 in
theorem ggX6_readJoined_X6_readRest : GoodIn wsX6_readJoined wsX6_readRest := goodIn_r _ [48, 7, 11, 12, 13, 4, 14, 6, 15, 16, 45, 46, 47, 35, 36, 37, 38, 39, 40, 0, 1, 2, 3, 5, 8, 9, 10, 17, 18, 19, 20, 21, 22, 23, 24, 25, 26, 27, 28, 29, 30, 31, 32, 33, 34, 41, 42, 43, 44, 49, 50, 51, 52, 53, 54] rfl (by decide +kernel)
set_option maxRecDepth 20000 in
theorem gX6_readJoined_X6_readRest : GoodIn wsX6_readJoined (wsV RX6 62 RX6 yX6_readRest wsX6_readRest) := goodIn_app (goodIn_r _ [20, 21, 22, 4] rfl (by decide +kernel)) ggX6_readJoined_X6_readRest
theorem dX6_readJoined_0 : decode cX6_readJoined 0 = .ok (.iload_n 1, 1) := by decide +kernel
theorem dX6_readJoined_1 : decode cX6_readJoined 1 = .ok (.bipush 6, 2) := by decide +kernel
theorem dX6_readJoined_3 : decode cX6_readJoined 3 = .ok (.if_icmp .gt 9, 3) := by decide +kernel
theorem dX6_readJoined_6 : decode cX6_readJoined 6 = .ok (.iload_n 2, 1) := by decide +kernel
theorem dX6_readJoined_7 : decode cX6_readJoined 7 = .ok (.bipush 6, 2) := by decide +kernel
theorem dX6_readJoined_9 : decode cX6_readJoined 9 = .ok (.if_icmp .le 8, 3) := by decide +kernel
theorem dX6_readJoined_12 : decode cX6_readJoined 12 = .ok (.aload_n 0, 1) := by decide +kernel
theorem dX6_readJoined_13 : decode cX6_readJoined 13 = .ok (.invokevirtual 38, 3) := by decide +kernel
theorem dX6_readJoined_16 : decode cX6_readJoined 16 = .ok (.return_, 1) := by decide +kernel
theorem dX6_readJoined_17 : decode cX6_readJoined 17 = .ok (.aload_n 0, 1) := by decide +kernel
theorem dX6_readJoined_18 : decode cX6_readJoined 18 = .ok (.iload_n 2, 1) := by decide +kernel
theorem dX6_readJoined_19 : decode cX6_readJoined 19 = .ok (.invokevirtual 55, 3) := by decide +kernel
theorem dX6_readJoined_22 : decode cX6_readJoined 22 = .ok (.iconst 5, 1) := by decide +kernel
theorem dX6_readJoined_23 : decode cX6_readJoined 23 = .ok (.istore_n 3, 1) := by decide +kernel
theorem dX6_readJoined_24 : decode cX6_readJoined 24 = .ok (.iconst 0, 1) := by decide +kernel
theorem dX6_readJoined_25 : decode cX6_readJoined 25 = .ok (.istore 4, 2) := by decide +kernel
theorem dX6_readJoined_27 : decode cX6_readJoined 27 = .ok (.iload 4, 2) := by decide +kernel
theorem dX6_readJoined_29 : decode cX6_readJoined 29 = .ok (.bipush 120, 2) := by decide +kernel
theorem dX6_readJoined_31 : decode cX6_readJoined 31 = .ok (.if_icmp .ge 51, 3) := by decide +kernel
theorem dX6_readJoined_34 : decode cX6_readJoined 34 = .ok (.aload_n 0, 1) := by decide +kernel
theorem dX6_readJoined_35 : decode cX6_readJoined 35 = .ok (.invokevirtual 41, 3) := by decide +kernel
theorem dX6_readJoined_38 : decode cX6_readJoined 38 = .ok (.invokestatic 58, 3) := by decide +kernel
theorem dX6_readJoined_41 : decode cX6_readJoined 41 = .ok (.istore 5, 2) := by decide +kernel
theorem dX6_readJoined_43 : decode cX6_readJoined 43 = .ok (.iload 5, 2) := by decide +kernel
theorem dX6_readJoined_45 : decode cX6_readJoined 45 = .ok (.iload_n 1, 1) := by decide +kernel
theorem dX6_readJoined_46 : decode cX6_readJoined 46 = .ok (.if_icmp .lt 9, 3) := by decide +kernel
theorem dX6_readJoined_49 : decode cX6_readJoined 49 = .ok (.iload 5, 2) := by decide +kernel
theorem dX6_readJoined_51 : decode cX6_readJoined 51 = .ok (.iload_n 3, 1) := by decide +kernel
theorem dX6_readJoined_52 : decode cX6_readJoined 52 = .ok (.if_icmp .le 4, 3) := by decide +kernel
theorem dX6_readJoined_55 : decode cX6_readJoined 55 = .ok (.return_, 1) := by decide +kernel
theorem dX6_readJoined_56 : decode cX6_readJoined 56 = .ok (.aload_n 0, 1) := by decide +kernel
theorem dX6_readJoined_57 : decode cX6_readJoined 57 = .ok (.iload 5, 2) := by decide +kernel
theorem dX6_readJoined_59 : decode cX6_readJoined 59 = .ok (.iload_n 2, 1) := by decide +kernel
theorem dX6_readJoined_60 : decode cX6_readJoined 60 = .ok (.invokevirtual 62, 3) := by decide +kernel
theorem dX6_readJoined_63 : decode cX6_readJoined 63 = .ok (.iload 5, 2) := by decide +kernel
theorem dX6_readJoined_65 : decode cX6_readJoined 65 = .ok (.iconst 3, 1) := by decide +kernel
theorem dX6_readJoined_66 : decode cX6_readJoined 66 = .ok (.if_icmp .ne 7, 3) := by decide +kernel
theorem dX6_readJoined_69 : decode cX6_readJoined 69 = .ok (.iconst 2, 1) := by decide +kernel
theorem dX6_readJoined_70 : decode cX6_readJoined 70 = .ok (.goto 5, 3) := by decide +kernel
theorem dX6_readJoined_73 : decode cX6_readJoined 73 = .ok (.iload 5, 2) := by decide +kernel
theorem dX6_readJoined_75 : decode cX6_readJoined 75 = .ok (.istore_n 3, 1) := by decide +kernel
theorem dX6_readJoined_76 : decode cX6_readJoined 76 = .ok (.iinc 4 1, 3) := by decide +kernel
theorem dX6_readJoined_79 : decode cX6_readJoined 79 = .ok (.goto (-52), 3) := by decide +kernel
theorem dX6_readJoined_82 : decode cX6_readJoined 82 = .ok (.return_, 1) := by decide +kernel
set_option maxRecDepth 20000 in
theorem ggX6_readRest_X6_next : GoodIn wsX6_readRest wsX6_next := goodIn_r _ [6, 7, 1, 8, 9, 49, 50, 51, 52, 53, 54] rfl (by decide +kernel)
set_option maxRecDepth 20000 in
theorem gX6_readRest_X6_next : GoodIn wsX6_readRest (wsV RX6 41 RX6 yX6_next wsX6_next) := goodIn_app (goodIn_r _ [2, 3, 4, 5] rfl (by decide +kernel)) ggX6_readRest_X6_next
set_option maxRecDepth 20000 in
theorem ggX6_readRest_X6_readJoined : GoodIn wsX6_readRest wsX6_readJoined := goodIn_r _ [19, 20, 21, 22, 5, 23, 7, 1, 24, 25, 26, 2, 3, 4, 6, 8, 9, 27, 28, 29, 30, 31, 32, 33, 34, 35, 36, 37, 38, 39, 40, 41, 42, 43, 44, 13, 14, 15, 16, 17, 18, 45, 46, 47, 48, 10, 11, 12, 0, 49, 50, 51, 52, 53, 54] rfl (by decide +kernel)
set_option maxRecDepth 20000 in
theorem gX6_readRest_X6_readJoined : GoodIn wsX6_readRest (wsV RX6 45 RX6 yX6_readJoined wsX6_readJoined) := goodIn_app (goodIn_r _ [10, 11, 12, 5] rfl (by decide +kernel)) ggX6_readRest_X6_readJoined
set_option maxRecDepth 20000 in
theorem ggX6_readRest_X6_write : GoodIn wsX6_readRest wsX6_write := goodIn_r _ [16, 17, 18, 49, 50, 51, 52, 53, 54] rfl (by decide +kernel)
set_option maxRecDepth 20000 in
theorem gX6_readRest_X6_write : GoodIn wsX6_readRest (wsV RX6 51 RX6 yX6_write wsX6_write) := goodIn_app (goodIn_r _ [13, 14, 15, 5] rfl (by decide +kernel)) ggX6_readRest_X6_write
theorem dX6_readRest_0 : decode cX6_readRest 0 = .ok (.aload_n 0, 1) := by decide +kernel
theorem dX6_readRest_1 : decode cX6_readRest 1 = .ok (.invokevirtual 41, 3) := by decide +kernel
theorem dX6_readRest_4 : decode cX6_readRest 4 = .ok (.istore_n 3, 1) := by decide +kernel
theorem dX6_readRest_5 : decode cX6_readRest 5 = .ok (.aload_n 0, 1) := by decide +kernel
theorem dX6_readRest_6 : decode cX6_readRest 6 = .ok (.dup, 1) := by decide +kernel
theorem dX6_readRest_7 : decode cX6_readRest 7 = .ok (.getfield 22, 3) := by decide +kernel
theorem dX6_readRest_10 : decode cX6_readRest 10 = .ok (.iconst 1, 1) := by decide +kernel
theorem dX6_readRest_11 : decode cX6_readRest 11 = .ok (.iadd, 1) := by decide +kernel
theorem dX6_readRest_12 : decode cX6_readRest 12 = .ok (.putfield 22, 3) := by decide +kernel
theorem dX6_readRest_15 : decode cX6_readRest 15 = .ok (.aload_n 0, 1) := by decide +kernel
theorem dX6_readRest_16 : decode cX6_readRest 16 = .ok (.iload_n 1, 1) := by decide +kernel
theorem dX6_readRest_17 : decode cX6_readRest 17 = .ok (.iconst 1, 1) := by decide +kernel
theorem dX6_readRest_18 : decode cX6_readRest 18 = .ok (.iadd, 1) := by decide +kernel
theorem dX6_readRest_19 : decode cX6_readRest 19 = .ok (.iload_n 2, 1) := by decide +kernel
theorem dX6_readRest_20 : decode cX6_readRest 20 = .ok (.invokevirtual 45, 3) := by decide +kernel
theorem dX6_readRest_23 : decode cX6_readRest 23 = .ok (.aload_n 0, 1) := by decide +kernel
theorem dX6_readRest_24 : decode cX6_readRest 24 = .ok (.sipush 30000, 3) := by decide +kernel
theorem dX6_readRest_27 : decode cX6_readRest 27 = .ok (.iload_n 3, 1) := by decide +kernel
theorem dX6_readRest_28 : decode cX6_readRest 28 = .ok (.iadd, 1) := by decide +kernel
theorem dX6_readRest_29 : decode cX6_readRest 29 = .ok (.invokevirtual 51, 3) := by decide +kernel
theorem dX6_readRest_32 : decode cX6_readRest 32 = .ok (.return_, 1) := by decide +kernel
theorem dX6_rankOf_0 : decode cX6_rankOf 0 = .ok (.iload_n 0, 1) := by decide +kernel
theorem dX6_rankOf_1 : decode cX6_rankOf 1 = .ok (.lookupswitch 101 #[(37, 99), (38, 93), (42, 99), (43, 97), (45, 97), (47, 99), (60, 95), (61, 95), (62, 95), (124, 91)], 91) := by decide +kernel
theorem dX6_rankOf_92 : decode cX6_rankOf 92 = .ok (.iconst 1, 1) := by decide +kernel
theorem dX6_rankOf_93 : decode cX6_rankOf 93 = .ok (.ireturn, 1) := by decide +kernel
theorem dX6_rankOf_94 : decode cX6_rankOf 94 = .ok (.iconst 2, 1) := by decide +kernel
theorem dX6_rankOf_95 : decode cX6_rankOf 95 = .ok (.ireturn, 1) := by decide +kernel
theorem dX6_rankOf_96 : decode cX6_rankOf 96 = .ok (.iconst 3, 1) := by decide +kernel
theorem dX6_rankOf_97 : decode cX6_rankOf 97 = .ok (.ireturn, 1) := by decide +kernel
theorem dX6_rankOf_98 : decode cX6_rankOf 98 = .ok (.iconst 4, 1) := by decide +kernel
theorem dX6_rankOf_99 : decode cX6_rankOf 99 = .ok (.ireturn, 1) := by decide +kernel
theorem dX6_rankOf_100 : decode cX6_rankOf 100 = .ok (.iconst 5, 1) := by decide +kernel
theorem dX6_rankOf_101 : decode cX6_rankOf 101 = .ok (.ireturn, 1) := by decide +kernel
theorem dX6_rankOf_102 : decode cX6_rankOf 102 = .ok (.iconst 0, 1) := by decide +kernel
theorem dX6_rankOf_103 : decode cX6_rankOf 103 = .ok (.ireturn, 1) := by decide +kernel
set_option maxRecDepth 20000 in
theorem ggX6_readOperand_X6_next : GoodIn wsX6_readOperand wsX6_next := goodIn_r _ [6, 7, 1, 8, 9, 49, 50, 51, 52, 53, 54] rfl (by decide +kernel)
set_option maxRecDepth 20000 in
theorem gX6_readOperand_X6_next : GoodIn wsX6_readOperand (wsV RX6 41 RX6 yX6_next wsX6_next) := goodIn_app (goodIn_r _ [2, 3, 4, 5] rfl (by decide +kernel)) ggX6_readOperand_X6_next
set_option maxRecDepth 20000 in
theorem ggX6_readOperand_X8_nameOf : GoodIn wsX6_readOperand wsX8_nameOf := goodIn_r _ [13] rfl (by decide +kernel)
set_option maxRecDepth 20000 in
theorem gX6_readOperand_X8_nameOf : GoodIn wsX6_readOperand (va_wsS RX6 65 yX8_nameOf wsX8_nameOf) := goodIn_app (goodIn_r _ [10, 11, 12] rfl (by decide +kernel)) ggX6_readOperand_X8_nameOf
set_option maxRecDepth 20000 in
theorem ggX6_readOperand_X11_within : GoodIn wsX6_readOperand wsX11_within := goodIn_r _ [16] rfl (by decide +kernel)
set_option maxRecDepth 20000 in
theorem gX6_readOperand_X11_within_n68 : GoodIn wsX6_readOperand (wsX11_within) := ggX6_readOperand_X11_within
set_option maxRecDepth 20000 in
theorem ggX6_readOperand_X6_readNumber : GoodIn wsX6_readOperand wsX6_readNumber := goodIn_r _ [20, 1, 2, 3, 4, 5, 6, 7, 8, 9, 14, 15, 16, 21, 22, 23, 24, 25, 26, 49, 50, 51, 52, 53, 54] rfl (by decide +kernel)
set_option maxRecDepth 20000 in
theorem gX6_readOperand_X6_readNumber : GoodIn wsX6_readOperand (wsV RX6 72 RX6 yX6_readNumber wsX6_readNumber) := goodIn_app (goodIn_r _ [17, 18, 19, 5] rfl (by decide +kernel)) ggX6_readOperand_X6_readNumber
set_option maxRecDepth 20000 in
theorem ggX6_readOperand_X6_write : GoodIn wsX6_readOperand wsX6_write := goodIn_r _ [24, 25, 26, 49, 50, 51, 52, 53, 54] rfl (by decide +kernel)
set_option maxRecDepth 20000 in
theorem gX6_readOperand_X6_write : GoodIn wsX6_readOperand (wsV RX6 51 RX6 yX6_write wsX6_write) := goodIn_app (goodIn_r _ [21, 22, 23, 5] rfl (by decide +kernel)) ggX6_readOperand_X6_write
set_option maxRecDepth 20000 in
theorem ggX6_readOperand_X6_fail : GoodIn wsX6_readOperand wsX6_fail := goodIn_r _ [30, 7, 1, 49, 50, 51, 52, 53, 54] rfl (by decide +kernel)
set_option maxRecDepth 20000 in
theorem gX6_readOperand_X6_fail : GoodIn wsX6_readOperand (wsV RX6 38 RX6 yX6_fail wsX6_fail) := goodIn_app (goodIn_r _ [27, 28, 29, 5] rfl (by decide +kernel)) ggX6_readOperand_X6_fail
set_option maxRecDepth 20000 in
theorem ggX6_readOperand_X6_goesOnWith : GoodIn wsX6_readOperand wsX6_goesOnWith := goodIn_r _ [34, 1, 2, 3, 4, 5, 6, 7, 8, 9, 49, 50, 51, 52, 53, 54] rfl (by decide +kernel)
set_option maxRecDepth 20000 in
theorem gX6_readOperand_X6_goesOnWith : GoodIn wsX6_readOperand (wsV RX6 34 RX6 yX6_goesOnWith wsX6_goesOnWith) := goodIn_app (goodIn_r _ [31, 32, 33, 5] rfl (by decide +kernel)) ggX6_readOperand_X6_goesOnWith
set_option maxRecDepth 20000 in
theorem ggX6_readOperand_X6_readJoined : GoodIn wsX6_readOperand wsX6_readJoined := goodIn_r _ [38, 27, 28, 29, 5, 30, 7, 1, 39, 40, 41, 2, 3, 4, 6, 8, 9, 42, 43, 44, 45, 46, 47, 0, 10, 11, 12, 13, 14, 15, 16, 17, 18, 19, 20, 21, 22, 23, 24, 25, 26, 31, 32, 33, 34, 35, 36, 37, 48, 49, 50, 51, 52, 53, 54] rfl (by decide +kernel)
set_option maxRecDepth 20000 in
theorem gX6_readOperand_X6_readJoined : GoodIn wsX6_readOperand (wsV RX6 45 RX6 yX6_readJoined wsX6_readJoined) := goodIn_app (goodIn_r _ [35, 36, 37, 5] rfl (by decide +kernel)) ggX6_readOperand_X6_readJoined
theorem dX6_readOperand_0 : decode cX6_readOperand 0 = .ok (.aload_n 0, 1) := by decide +kernel
theorem dX6_readOperand_1 : decode cX6_readOperand 1 = .ok (.invokevirtual 41, 3) := by decide +kernel
theorem dX6_readOperand_4 : decode cX6_readOperand 4 = .ok (.istore_n 2, 1) := by decide +kernel
theorem dX6_readOperand_5 : decode cX6_readOperand 5 = .ok (.iload_n 2, 1) := by decide +kernel
theorem dX6_readOperand_6 : decode cX6_readOperand 6 = .ok (.invokestatic 65, 3) := by decide +kernel
theorem dX6_readOperand_9 : decode cX6_readOperand 9 = .ok (.istore_n 3, 1) := by decide +kernel
theorem dX6_readOperand_10 : decode cX6_readOperand 10 = .ok (.iload_n 2, 1) := by decide +kernel
theorem dX6_readOperand_11 : decode cX6_readOperand 11 = .ok (.bipush 48, 2) := by decide +kernel
theorem dX6_readOperand_13 : decode cX6_readOperand 13 = .ok (.bipush 57, 2) := by decide +kernel
theorem dX6_readOperand_15 : decode cX6_readOperand 15 = .ok (.invokestatic 68, 3) := by decide +kernel
theorem dX6_readOperand_18 : decode cX6_readOperand 18 = .ok (.ifCond .eq 10, 3) := by decide +kernel
theorem dX6_readOperand_21 : decode cX6_readOperand 21 = .ok (.aload_n 0, 1) := by decide +kernel
theorem dX6_readOperand_22 : decode cX6_readOperand 22 = .ok (.invokevirtual 72, 3) := by decide +kernel
theorem dX6_readOperand_25 : decode cX6_readOperand 25 = .ok (.goto 135, 3) := by decide +kernel
theorem dX6_readOperand_28 : decode cX6_readOperand 28 = .ok (.iload_n 3, 1) := by decide +kernel
theorem dX6_readOperand_29 : decode cX6_readOperand 29 = .ok (.ifCond .lt 25, 3) := by decide +kernel
theorem dX6_readOperand_32 : decode cX6_readOperand 32 = .ok (.aload_n 0, 1) := by decide +kernel
theorem dX6_readOperand_33 : decode cX6_readOperand 33 = .ok (.dup, 1) := by decide +kernel
theorem dX6_readOperand_34 : decode cX6_readOperand 34 = .ok (.getfield 22, 3) := by decide +kernel
theorem dX6_readOperand_37 : decode cX6_readOperand 37 = .ok (.iconst 1, 1) := by decide +kernel
theorem dX6_readOperand_38 : decode cX6_readOperand 38 = .ok (.iadd, 1) := by decide +kernel
theorem dX6_readOperand_39 : decode cX6_readOperand 39 = .ok (.putfield 22, 3) := by decide +kernel
theorem dX6_readOperand_42 : decode cX6_readOperand 42 = .ok (.aload_n 0, 1) := by decide +kernel
theorem dX6_readOperand_43 : decode cX6_readOperand 43 = .ok (.sipush 10000, 3) := by decide +kernel
theorem dX6_readOperand_46 : decode cX6_readOperand 46 = .ok (.iload_n 3, 1) := by decide +kernel
theorem dX6_readOperand_47 : decode cX6_readOperand 47 = .ok (.iadd, 1) := by decide +kernel
theorem dX6_readOperand_48 : decode cX6_readOperand 48 = .ok (.invokevirtual 51, 3) := by decide +kernel
theorem dX6_readOperand_51 : decode cX6_readOperand 51 = .ok (.goto 109, 3) := by decide +kernel
theorem dX6_readOperand_54 : decode cX6_readOperand 54 = .ok (.iload_n 1, 1) := by decide +kernel
theorem dX6_readOperand_55 : decode cX6_readOperand 55 = .ok (.bipush 6, 2) := by decide +kernel
theorem dX6_readOperand_57 : decode cX6_readOperand 57 = .ok (.if_icmp .lt 10, 3) := by decide +kernel
theorem dX6_readOperand_60 : decode cX6_readOperand 60 = .ok (.aload_n 0, 1) := by decide +kernel
theorem dX6_readOperand_61 : decode cX6_readOperand 61 = .ok (.invokevirtual 38, 3) := by decide +kernel
theorem dX6_readOperand_64 : decode cX6_readOperand 64 = .ok (.goto 96, 3) := by decide +kernel
theorem dX6_readOperand_67 : decode cX6_readOperand 67 = .ok (.aload_n 0, 1) := by decide +kernel
theorem dX6_readOperand_68 : decode cX6_readOperand 68 = .ok (.bipush 33, 2) := by decide +kernel
theorem dX6_readOperand_70 : decode cX6_readOperand 70 = .ok (.invokevirtual 34, 3) := by decide +kernel
theorem dX6_readOperand_73 : decode cX6_readOperand 73 = .ok (.ifCond .eq 22, 3) := by decide +kernel
theorem dX6_readOperand_76 : decode cX6_readOperand 76 = .ok (.aload_n 0, 1) := by decide +kernel
theorem dX6_readOperand_77 : decode cX6_readOperand 77 = .ok (.bipush 6, 2) := by decide +kernel
theorem dX6_readOperand_79 : decode cX6_readOperand 79 = .ok (.iload_n 1, 1) := by decide +kernel
theorem dX6_readOperand_80 : decode cX6_readOperand 80 = .ok (.iconst 1, 1) := by decide +kernel
theorem dX6_readOperand_81 : decode cX6_readOperand 81 = .ok (.iadd, 1) := by decide +kernel
theorem dX6_readOperand_82 : decode cX6_readOperand 82 = .ok (.invokevirtual 45, 3) := by decide +kernel
theorem dX6_readOperand_85 : decode cX6_readOperand 85 = .ok (.aload_n 0, 1) := by decide +kernel
theorem dX6_readOperand_86 : decode cX6_readOperand 86 = .ok (.sipush 30033, 3) := by decide +kernel
theorem dX6_readOperand_89 : decode cX6_readOperand 89 = .ok (.invokevirtual 51, 3) := by decide +kernel
theorem dX6_readOperand_92 : decode cX6_readOperand 92 = .ok (.goto 68, 3) := by decide +kernel
theorem dX6_readOperand_95 : decode cX6_readOperand 95 = .ok (.aload_n 0, 1) := by decide +kernel
theorem dX6_readOperand_96 : decode cX6_readOperand 96 = .ok (.bipush 45, 2) := by decide +kernel
theorem dX6_readOperand_98 : decode cX6_readOperand 98 = .ok (.invokevirtual 34, 3) := by decide +kernel
theorem dX6_readOperand_101 : decode cX6_readOperand 101 = .ok (.ifCond .eq 22, 3) := by decide +kernel
theorem dX6_readOperand_104 : decode cX6_readOperand 104 = .ok (.aload_n 0, 1) := by decide +kernel
theorem dX6_readOperand_105 : decode cX6_readOperand 105 = .ok (.bipush 6, 2) := by decide +kernel
theorem dX6_readOperand_107 : decode cX6_readOperand 107 = .ok (.iload_n 1, 1) := by decide +kernel
theorem dX6_readOperand_108 : decode cX6_readOperand 108 = .ok (.iconst 1, 1) := by decide +kernel
theorem dX6_readOperand_109 : decode cX6_readOperand 109 = .ok (.iadd, 1) := by decide +kernel
theorem dX6_readOperand_110 : decode cX6_readOperand 110 = .ok (.invokevirtual 45, 3) := by decide +kernel
theorem dX6_readOperand_113 : decode cX6_readOperand 113 = .ok (.aload_n 0, 1) := by decide +kernel
theorem dX6_readOperand_114 : decode cX6_readOperand 114 = .ok (.sipush 30000, 3) := by decide +kernel
theorem dX6_readOperand_117 : decode cX6_readOperand 117 = .ok (.invokevirtual 51, 3) := by decide +kernel
theorem dX6_readOperand_120 : decode cX6_readOperand 120 = .ok (.goto 40, 3) := by decide +kernel
theorem dX6_readOperand_123 : decode cX6_readOperand 123 = .ok (.aload_n 0, 1) := by decide +kernel
theorem dX6_readOperand_124 : decode cX6_readOperand 124 = .ok (.bipush 40, 2) := by decide +kernel
theorem dX6_readOperand_126 : decode cX6_readOperand 126 = .ok (.invokevirtual 34, 3) := by decide +kernel
theorem dX6_readOperand_129 : decode cX6_readOperand 129 = .ok (.ifCond .eq 27, 3) := by decide +kernel
theorem dX6_readOperand_132 : decode cX6_readOperand 132 = .ok (.aload_n 0, 1) := by decide +kernel
theorem dX6_readOperand_133 : decode cX6_readOperand 133 = .ok (.iconst 1, 1) := by decide +kernel
theorem dX6_readOperand_134 : decode cX6_readOperand 134 = .ok (.iload_n 1, 1) := by decide +kernel
theorem dX6_readOperand_135 : decode cX6_readOperand 135 = .ok (.iconst 1, 1) := by decide +kernel
theorem dX6_readOperand_136 : decode cX6_readOperand 136 = .ok (.iadd, 1) := by decide +kernel
theorem dX6_readOperand_137 : decode cX6_readOperand 137 = .ok (.invokevirtual 45, 3) := by decide +kernel
theorem dX6_readOperand_140 : decode cX6_readOperand 140 = .ok (.aload_n 0, 1) := by decide +kernel
theorem dX6_readOperand_141 : decode cX6_readOperand 141 = .ok (.bipush 41, 2) := by decide +kernel
theorem dX6_readOperand_143 : decode cX6_readOperand 143 = .ok (.invokevirtual 34, 3) := by decide +kernel
theorem dX6_readOperand_146 : decode cX6_readOperand 146 = .ok (.ifCond .ne 14, 3) := by decide +kernel
theorem dX6_readOperand_149 : decode cX6_readOperand 149 = .ok (.aload_n 0, 1) := by decide +kernel
theorem dX6_readOperand_150 : decode cX6_readOperand 150 = .ok (.invokevirtual 38, 3) := by decide +kernel
theorem dX6_readOperand_153 : decode cX6_readOperand 153 = .ok (.goto 7, 3) := by decide +kernel
theorem dX6_readOperand_156 : decode cX6_readOperand 156 = .ok (.aload_n 0, 1) := by decide +kernel
theorem dX6_readOperand_157 : decode cX6_readOperand 157 = .ok (.invokevirtual 38, 3) := by decide +kernel
theorem dX6_readOperand_160 : decode cX6_readOperand 160 = .ok (.return_, 1) := by decide +kernel
set_option maxRecDepth 20000 in
theorem ggX6_readNumber_X6_next : GoodIn wsX6_readNumber wsX6_next := goodIn_r _ [6, 7, 1, 8, 9, 19, 20, 21, 22, 23, 24] rfl (by decide +kernel)
set_option maxRecDepth 20000 in
theorem gX6_readNumber_X6_next : GoodIn wsX6_readNumber (wsV RX6 41 RX6 yX6_next wsX6_next) := goodIn_app (goodIn_r _ [2, 3, 4, 5] rfl (by decide +kernel)) ggX6_readNumber_X6_next
set_option maxRecDepth 20000 in
theorem ggX6_readNumber_X11_within : GoodIn wsX6_readNumber wsX11_within := goodIn_r _ [12] rfl (by decide +kernel)
set_option maxRecDepth 20000 in
theorem gX6_readNumber_X11_within_n68 : GoodIn wsX6_readNumber (wsX11_within) := ggX6_readNumber_X11_within
set_option maxRecDepth 20000 in
theorem ggX6_readNumber_X6_write : GoodIn wsX6_readNumber wsX6_write := goodIn_r _ [16, 17, 18, 19, 20, 21, 22, 23, 24] rfl (by decide +kernel)
set_option maxRecDepth 20000 in
theorem gX6_readNumber_X6_write : GoodIn wsX6_readNumber (wsV RX6 51 RX6 yX6_write wsX6_write) := goodIn_app (goodIn_r _ [13, 14, 15, 5] rfl (by decide +kernel)) ggX6_readNumber_X6_write
theorem dX6_readNumber_0 : decode cX6_readNumber 0 = .ok (.iconst 0, 1) := by decide +kernel
theorem dX6_readNumber_1 : decode cX6_readNumber 1 = .ok (.istore_n 1, 1) := by decide +kernel
theorem dX6_readNumber_2 : decode cX6_readNumber 2 = .ok (.iconst 0, 1) := by decide +kernel
theorem dX6_readNumber_3 : decode cX6_readNumber 3 = .ok (.istore_n 2, 1) := by decide +kernel
theorem dX6_readNumber_4 : decode cX6_readNumber 4 = .ok (.iload_n 2, 1) := by decide +kernel
theorem dX6_readNumber_5 : decode cX6_readNumber 5 = .ok (.iconst 4, 1) := by decide +kernel
theorem dX6_readNumber_6 : decode cX6_readNumber 6 = .ok (.if_icmp .ge 46, 3) := by decide +kernel
theorem dX6_readNumber_9 : decode cX6_readNumber 9 = .ok (.aload_n 0, 1) := by decide +kernel
theorem dX6_readNumber_10 : decode cX6_readNumber 10 = .ok (.invokevirtual 41, 3) := by decide +kernel
theorem dX6_readNumber_13 : decode cX6_readNumber 13 = .ok (.bipush 48, 2) := by decide +kernel
theorem dX6_readNumber_15 : decode cX6_readNumber 15 = .ok (.bipush 57, 2) := by decide +kernel
theorem dX6_readNumber_17 : decode cX6_readNumber 17 = .ok (.invokestatic 68, 3) := by decide +kernel
theorem dX6_readNumber_20 : decode cX6_readNumber 20 = .ok (.ifCond .eq 32, 3) := by decide +kernel
theorem dX6_readNumber_23 : decode cX6_readNumber 23 = .ok (.iload_n 1, 1) := by decide +kernel
theorem dX6_readNumber_24 : decode cX6_readNumber 24 = .ok (.bipush 10, 2) := by decide +kernel
theorem dX6_readNumber_26 : decode cX6_readNumber 26 = .ok (.imul, 1) := by decide +kernel
theorem dX6_readNumber_27 : decode cX6_readNumber 27 = .ok (.aload_n 0, 1) := by decide +kernel
theorem dX6_readNumber_28 : decode cX6_readNumber 28 = .ok (.invokevirtual 41, 3) := by decide +kernel
theorem dX6_readNumber_31 : decode cX6_readNumber 31 = .ok (.iadd, 1) := by decide +kernel
theorem dX6_readNumber_32 : decode cX6_readNumber 32 = .ok (.bipush 48, 2) := by decide +kernel
theorem dX6_readNumber_34 : decode cX6_readNumber 34 = .ok (.isub, 1) := by decide +kernel
theorem dX6_readNumber_35 : decode cX6_readNumber 35 = .ok (.istore_n 1, 1) := by decide +kernel
theorem dX6_readNumber_36 : decode cX6_readNumber 36 = .ok (.aload_n 0, 1) := by decide +kernel
theorem dX6_readNumber_37 : decode cX6_readNumber 37 = .ok (.dup, 1) := by decide +kernel
theorem dX6_readNumber_38 : decode cX6_readNumber 38 = .ok (.getfield 22, 3) := by decide +kernel
theorem dX6_readNumber_41 : decode cX6_readNumber 41 = .ok (.iconst 1, 1) := by decide +kernel
theorem dX6_readNumber_42 : decode cX6_readNumber 42 = .ok (.iadd, 1) := by decide +kernel
theorem dX6_readNumber_43 : decode cX6_readNumber 43 = .ok (.putfield 22, 3) := by decide +kernel
theorem dX6_readNumber_46 : decode cX6_readNumber 46 = .ok (.iinc 2 1, 3) := by decide +kernel
theorem dX6_readNumber_49 : decode cX6_readNumber 49 = .ok (.goto (-45), 3) := by decide +kernel
theorem dX6_readNumber_52 : decode cX6_readNumber 52 = .ok (.aload_n 0, 1) := by decide +kernel
theorem dX6_readNumber_53 : decode cX6_readNumber 53 = .ok (.iload_n 1, 1) := by decide +kernel
theorem dX6_readNumber_54 : decode cX6_readNumber 54 = .ok (.invokevirtual 51, 3) := by decide +kernel
theorem dX6_readNumber_57 : decode cX6_readNumber 57 = .ok (.return_, 1) := by decide +kernel
theorem dX7_init_0 : decode cX7_init 0 = .ok (.aload_n 0, 1) := by decide +kernel
theorem dX7_init_1 : decode cX7_init 1 = .ok (.invokespecial 3, 3) := by decide +kernel
theorem dX7_init_4 : decode cX7_init 4 = .ok (.aload_n 0, 1) := by decide +kernel
theorem dX7_init_5 : decode cX7_init 5 = .ok (.bipush 60, 2) := by decide +kernel
theorem dX7_init_7 : decode cX7_init 7 = .ok (.newarray .long, 2) := by decide +kernel
theorem dX7_init_9 : decode cX7_init 9 = .ok (.putfield 9, 3) := by decide +kernel
theorem dX7_init_12 : decode cX7_init 12 = .ok (.return_, 1) := by decide +kernel
theorem dX7_holdDeed_0 : decode cX7_holdDeed 0 = .ok (.aload_n 0, 1) := by decide +kernel
theorem dX7_holdDeed_1 : decode cX7_holdDeed 1 = .ok (.iload_n 1, 1) := by decide +kernel
theorem dX7_holdDeed_2 : decode cX7_holdDeed 2 = .ok (.ifCond .ge 7, 3) := by decide +kernel
theorem dX7_holdDeed_5 : decode cX7_holdDeed 5 = .ok (.iconst 0, 1) := by decide +kernel
theorem dX7_holdDeed_6 : decode cX7_holdDeed 6 = .ok (.goto 4, 3) := by decide +kernel
theorem dX7_holdDeed_9 : decode cX7_holdDeed 9 = .ok (.iconst 1, 1) := by decide +kernel
theorem dX7_holdDeed_10 : decode cX7_holdDeed 10 = .ok (.putfield 15, 3) := by decide +kernel
theorem dX7_holdDeed_13 : decode cX7_holdDeed 13 = .ok (.aload_n 0, 1) := by decide +kernel
theorem dX7_holdDeed_14 : decode cX7_holdDeed 14 = .ok (.iload_n 1, 1) := by decide +kernel
theorem dX7_holdDeed_15 : decode cX7_holdDeed 15 = .ok (.putfield 19, 3) := by decide +kernel
theorem dX7_holdDeed_18 : decode cX7_holdDeed 18 = .ok (.aload_n 0, 1) := by decide +kernel
theorem dX7_holdDeed_19 : decode cX7_holdDeed 19 = .ok (.iconst 0, 1) := by decide +kernel
theorem dX7_holdDeed_20 : decode cX7_holdDeed 20 = .ok (.putfield 22, 3) := by decide +kernel
theorem dX7_holdDeed_23 : decode cX7_holdDeed 23 = .ok (.return_, 1) := by decide +kernel
set_option maxRecDepth 20000 in
theorem ggX7_holdRow_X11_bounded : GoodIn wsX7_holdRow wsX11_bounded := goodIn_r _ [7, 8, 9, 10, 11, 12, 13, 14] rfl (by decide +kernel)
set_option maxRecDepth 20000 in
theorem gX7_holdRow_X11_bounded_n28 : GoodIn wsX7_holdRow (wsX11_bounded) := ggX7_holdRow_X11_bounded
set_option maxRecDepth 20000 in
theorem ggX7_holdRow_J7_fill_d0a16 : GoodIn wsX7_holdRow wsJ7_fill_d0a16 := goodIn_r _ [18] rfl (by decide +kernel)
set_option maxRecDepth 20000 in
theorem gX7_holdRow_J7_fill_d0a16 : GoodIn wsX7_holdRow (va_wsS RX7 32 yJ7_fill_d0a16 wsJ7_fill_d0a16) := goodIn_app (goodIn_r _ [15, 16, 17] rfl (by decide +kernel)) ggX7_holdRow_J7_fill_d0a16
theorem dX7_holdRow_0 : decode cX7_holdRow 0 = .ok (.aload_n 0, 1) := by decide +kernel
theorem dX7_holdRow_1 : decode cX7_holdRow 1 = .ok (.iconst 2, 1) := by decide +kernel
theorem dX7_holdRow_2 : decode cX7_holdRow 2 = .ok (.putfield 15, 3) := by decide +kernel
theorem dX7_holdRow_5 : decode cX7_holdRow 5 = .ok (.aload_n 0, 1) := by decide +kernel
theorem dX7_holdRow_6 : decode cX7_holdRow 6 = .ok (.iload_n 1, 1) := by decide +kernel
theorem dX7_holdRow_7 : decode cX7_holdRow 7 = .ok (.putfield 25, 3) := by decide +kernel
theorem dX7_holdRow_10 : decode cX7_holdRow 10 = .ok (.aload_n 0, 1) := by decide +kernel
theorem dX7_holdRow_11 : decode cX7_holdRow 11 = .ok (.iload_n 2, 1) := by decide +kernel
theorem dX7_holdRow_12 : decode cX7_holdRow 12 = .ok (.iconst 0, 1) := by decide +kernel
theorem dX7_holdRow_13 : decode cX7_holdRow 13 = .ok (.bipush 60, 2) := by decide +kernel
theorem dX7_holdRow_15 : decode cX7_holdRow 15 = .ok (.invokestatic 28, 3) := by decide +kernel
theorem dX7_holdRow_18 : decode cX7_holdRow 18 = .ok (.putfield 22, 3) := by decide +kernel
theorem dX7_holdRow_21 : decode cX7_holdRow 21 = .ok (.aload_n 0, 1) := by decide +kernel
theorem dX7_holdRow_22 : decode cX7_holdRow 22 = .ok (.getfield 9, 3) := by decide +kernel
theorem dX7_holdRow_25 : decode cX7_holdRow 25 = .ok (.lconst 0, 1) := by decide +kernel
theorem dX7_holdRow_26 : decode cX7_holdRow 26 = .ok (.invokestatic 32, 3) := by decide +kernel
theorem dX7_holdRow_29 : decode cX7_holdRow 29 = .ok (.return_, 1) := by decide +kernel
theorem dX7_spans_0 : decode cX7_spans 0 = .ok (.iload_n 1, 1) := by decide +kernel
theorem dX7_spans_1 : decode cX7_spans 1 = .ok (.ifCond .lt 29, 3) := by decide +kernel
theorem dX7_spans_4 : decode cX7_spans 4 = .ok (.iload_n 2, 1) := by decide +kernel
theorem dX7_spans_5 : decode cX7_spans 5 = .ok (.ifCond .lt 25, 3) := by decide +kernel
theorem dX7_spans_8 : decode cX7_spans 8 = .ok (.iload_n 1, 1) := by decide +kernel
theorem dX7_spans_9 : decode cX7_spans 9 = .ok (.aload_n 0, 1) := by decide +kernel
theorem dX7_spans_10 : decode cX7_spans 10 = .ok (.getfield 22, 3) := by decide +kernel
theorem dX7_spans_13 : decode cX7_spans 13 = .ok (.if_icmp .gt 17, 3) := by decide +kernel
theorem dX7_spans_16 : decode cX7_spans 16 = .ok (.iload_n 2, 1) := by decide +kernel
theorem dX7_spans_17 : decode cX7_spans 17 = .ok (.aload_n 0, 1) := by decide +kernel
theorem dX7_spans_18 : decode cX7_spans 18 = .ok (.getfield 22, 3) := by decide +kernel
theorem dX7_spans_21 : decode cX7_spans 21 = .ok (.iload_n 1, 1) := by decide +kernel
theorem dX7_spans_22 : decode cX7_spans 22 = .ok (.isub, 1) := by decide +kernel
theorem dX7_spans_23 : decode cX7_spans 23 = .ok (.if_icmp .gt 7, 3) := by decide +kernel
theorem dX7_spans_26 : decode cX7_spans 26 = .ok (.iconst 1, 1) := by decide +kernel
theorem dX7_spans_27 : decode cX7_spans 27 = .ok (.goto 4, 3) := by decide +kernel
theorem dX7_spans_30 : decode cX7_spans 30 = .ok (.iconst 0, 1) := by decide +kernel
theorem dX7_spans_31 : decode cX7_spans 31 = .ok (.ireturn, 1) := by decide +kernel
set_option maxRecDepth 20000 in
theorem ggX7_store_X7_spans : GoodIn wsX7_store wsX7_spans := goodIn_r _ [6, 7, 13, 14, 15, 16, 17] rfl (by decide +kernel)
set_option maxRecDepth 20000 in
theorem gX7_store_X7_spans : GoodIn wsX7_store (wsV RX7 38 RX7 yX7_spans wsX7_spans) := goodIn_app (goodIn_r _ [2, 3, 4, 5] rfl (by decide +kernel)) ggX7_store_X7_spans
set_option maxRecDepth 20000 in
theorem ggX7_store_X7_lowest : GoodIn wsX7_store wsX7_lowest := goodIn_r _ [11, 12, 13, 14, 15, 16, 17] rfl (by decide +kernel)
set_option maxRecDepth 20000 in
theorem gX7_store_X7_lowest : GoodIn wsX7_store (wsV RX7 42 RX7 yX7_lowest wsX7_lowest) := goodIn_app (goodIn_r _ [8, 9, 10, 5] rfl (by decide +kernel)) ggX7_store_X7_lowest
theorem dX7_store_0 : decode cX7_store 0 = .ok (.aload_n 0, 1) := by decide +kernel
theorem dX7_store_1 : decode cX7_store 1 = .ok (.iload_n 1, 1) := by decide +kernel
theorem dX7_store_2 : decode cX7_store 2 = .ok (.iconst 1, 1) := by decide +kernel
theorem dX7_store_3 : decode cX7_store 3 = .ok (.invokevirtual 38, 3) := by decide +kernel
theorem dX7_store_6 : decode cX7_store 6 = .ok (.ifCond .eq 14, 3) := by decide +kernel
theorem dX7_store_9 : decode cX7_store 9 = .ok (.aload_n 0, 1) := by decide +kernel
theorem dX7_store_10 : decode cX7_store 10 = .ok (.getfield 9, 3) := by decide +kernel
theorem dX7_store_13 : decode cX7_store 13 = .ok (.iload_n 1, 1) := by decide +kernel
theorem dX7_store_14 : decode cX7_store 14 = .ok (.aload_n 0, 1) := by decide +kernel
theorem dX7_store_15 : decode cX7_store 15 = .ok (.lload_n 2, 1) := by decide +kernel
theorem dX7_store_16 : decode cX7_store 16 = .ok (.invokevirtual 42, 3) := by decide +kernel
theorem dX7_store_19 : decode cX7_store 19 = .ok (.lastore, 1) := by decide +kernel
theorem dX7_store_20 : decode cX7_store 20 = .ok (.return_, 1) := by decide +kernel
theorem dX7_lowest_0 : decode cX7_lowest 0 = .ok (.aload_n 0, 1) := by decide +kernel
theorem dX7_lowest_1 : decode cX7_lowest 1 = .ok (.getfield 25, 3) := by decide +kernel
theorem dX7_lowest_4 : decode cX7_lowest 4 = .ok (.tableswitch 48 0 3 #[32, 37, 42, 46], 32) := by decide +kernel
theorem dX7_lowest_36 : decode cX7_lowest 36 = .ok (.lload_n 1, 1) := by decide +kernel
theorem dX7_lowest_37 : decode cX7_lowest 37 = .ok (.l2i, 1) := by decide +kernel
theorem dX7_lowest_38 : decode cX7_lowest 38 = .ok (.i2b, 1) := by decide +kernel
theorem dX7_lowest_39 : decode cX7_lowest 39 = .ok (.i2l, 1) := by decide +kernel
theorem dX7_lowest_40 : decode cX7_lowest 40 = .ok (.lreturn, 1) := by decide +kernel
theorem dX7_lowest_41 : decode cX7_lowest 41 = .ok (.lload_n 1, 1) := by decide +kernel
theorem dX7_lowest_42 : decode cX7_lowest 42 = .ok (.l2i, 1) := by decide +kernel
theorem dX7_lowest_43 : decode cX7_lowest 43 = .ok (.i2s, 1) := by decide +kernel
theorem dX7_lowest_44 : decode cX7_lowest 44 = .ok (.i2l, 1) := by decide +kernel
theorem dX7_lowest_45 : decode cX7_lowest 45 = .ok (.lreturn, 1) := by decide +kernel
theorem dX7_lowest_46 : decode cX7_lowest 46 = .ok (.lload_n 1, 1) := by decide +kernel
theorem dX7_lowest_47 : decode cX7_lowest 47 = .ok (.l2i, 1) := by decide +kernel
theorem dX7_lowest_48 : decode cX7_lowest 48 = .ok (.i2l, 1) := by decide +kernel
theorem dX7_lowest_49 : decode cX7_lowest 49 = .ok (.lreturn, 1) := by decide +kernel
theorem dX7_lowest_50 : decode cX7_lowest 50 = .ok (.lload_n 1, 1) := by decide +kernel
theorem dX7_lowest_51 : decode cX7_lowest 51 = .ok (.lreturn, 1) := by decide +kernel
theorem dX7_lowest_52 : decode cX7_lowest 52 = .ok (.lload_n 1, 1) := by decide +kernel
theorem dX7_lowest_53 : decode cX7_lowest 53 = .ok (.lconst 0, 1) := by decide +kernel
theorem dX7_lowest_54 : decode cX7_lowest 54 = .ok (.lcmp, 1) := by decide +kernel
theorem dX7_lowest_55 : decode cX7_lowest 55 = .ok (.ifCond .eq 7, 3) := by decide +kernel
theorem dX7_lowest_58 : decode cX7_lowest 58 = .ok (.lconst 1, 1) := by decide +kernel
theorem dX7_lowest_59 : decode cX7_lowest 59 = .ok (.goto 4, 3) := by decide +kernel
theorem dX7_lowest_62 : decode cX7_lowest 62 = .ok (.lconst 0, 1) := by decide +kernel
theorem dX7_lowest_63 : decode cX7_lowest 63 = .ok (.lreturn, 1) := by decide +kernel
theorem dX8_init_0 : decode cX8_init 0 = .ok (.aload_n 0, 1) := by decide +kernel
theorem dX8_init_1 : decode cX8_init 1 = .ok (.invokespecial 3, 3) := by decide +kernel
theorem dX8_init_4 : decode cX8_init 4 = .ok (.aload_n 0, 1) := by decide +kernel
theorem dX8_init_5 : decode cX8_init 5 = .ok (.sipush 128, 3) := by decide +kernel
theorem dX8_init_8 : decode cX8_init 8 = .ok (.newarray .int, 2) := by decide +kernel
theorem dX8_init_10 : decode cX8_init 10 = .ok (.putfield 9, 3) := by decide +kernel
theorem dX8_init_13 : decode cX8_init 13 = .ok (.aload_n 0, 1) := by decide +kernel
theorem dX8_init_14 : decode cX8_init 14 = .ok (.sipush 128, 3) := by decide +kernel
theorem dX8_init_17 : decode cX8_init 17 = .ok (.newarray .int, 2) := by decide +kernel
theorem dX8_init_19 : decode cX8_init 19 = .ok (.putfield 15, 3) := by decide +kernel
theorem dX8_init_22 : decode cX8_init 22 = .ok (.aload_n 0, 1) := by decide +kernel
theorem dX8_init_23 : decode cX8_init 23 = .ok (.bipush 7, 2) := by decide +kernel
theorem dX8_init_25 : decode cX8_init 25 = .ok (.newarray .int, 2) := by decide +kernel
theorem dX8_init_27 : decode cX8_init 27 = .ok (.putfield 18, 3) := by decide +kernel
theorem dX8_init_30 : decode cX8_init 30 = .ok (.return_, 1) := by decide +kernel
theorem dX8_nameOf_0 : decode cX8_nameOf 0 = .ok (.iload_n 0, 1) := by decide +kernel
theorem dX8_nameOf_1 : decode cX8_nameOf 1 = .ok (.tableswitch 130 97 121 #[115, 117, 130, 119, 130, 130, 130, 130, 130, 130, 130, 123, 130, 130, 130, 130, 130, 130, 125, 130, 130, 130, 121, 130, 127], 115) := by decide +kernel
theorem dX8_nameOf_116 : decode cX8_nameOf 116 = .ok (.iconst 0, 1) := by decide +kernel
theorem dX8_nameOf_117 : decode cX8_nameOf 117 = .ok (.ireturn, 1) := by decide +kernel
theorem dX8_nameOf_118 : decode cX8_nameOf 118 = .ok (.iconst 1, 1) := by decide +kernel
theorem dX8_nameOf_119 : decode cX8_nameOf 119 = .ok (.ireturn, 1) := by decide +kernel
theorem dX8_nameOf_120 : decode cX8_nameOf 120 = .ok (.iconst 2, 1) := by decide +kernel
theorem dX8_nameOf_121 : decode cX8_nameOf 121 = .ok (.ireturn, 1) := by decide +kernel
theorem dX8_nameOf_122 : decode cX8_nameOf 122 = .ok (.iconst 3, 1) := by decide +kernel
theorem dX8_nameOf_123 : decode cX8_nameOf 123 = .ok (.ireturn, 1) := by decide +kernel
theorem dX8_nameOf_124 : decode cX8_nameOf 124 = .ok (.iconst 4, 1) := by decide +kernel
theorem dX8_nameOf_125 : decode cX8_nameOf 125 = .ok (.ireturn, 1) := by decide +kernel
theorem dX8_nameOf_126 : decode cX8_nameOf 126 = .ok (.iconst 5, 1) := by decide +kernel
theorem dX8_nameOf_127 : decode cX8_nameOf 127 = .ok (.ireturn, 1) := by decide +kernel
theorem dX8_nameOf_128 : decode cX8_nameOf 128 = .ok (.bipush 6, 2) := by decide +kernel
theorem dX8_nameOf_130 : decode cX8_nameOf 130 = .ok (.ireturn, 1) := by decide +kernel
theorem dX8_nameOf_131 : decode cX8_nameOf 131 = .ok (.iconst (-1), 1) := by decide +kernel
theorem dX8_nameOf_132 : decode cX8_nameOf 132 = .ok (.ireturn, 1) := by decide +kernel
theorem dX8_become_0 : decode cX8_become 0 = .ok (.aload_n 0, 1) := by decide +kernel
theorem dX8_become_1 : decode cX8_become 1 = .ok (.iconst 0, 1) := by decide +kernel
theorem dX8_become_2 : decode cX8_become 2 = .ok (.putfield 21, 3) := by decide +kernel
theorem dX8_become_5 : decode cX8_become 5 = .ok (.iconst 0, 1) := by decide +kernel
theorem dX8_become_6 : decode cX8_become 6 = .ok (.istore_n 3, 1) := by decide +kernel
theorem dX8_become_7 : decode cX8_become 7 = .ok (.iload_n 3, 1) := by decide +kernel
theorem dX8_become_8 : decode cX8_become 8 = .ok (.iload_n 2, 1) := by decide +kernel
theorem dX8_become_9 : decode cX8_become 9 = .ok (.if_icmp .ge 41, 3) := by decide +kernel
theorem dX8_become_12 : decode cX8_become 12 = .ok (.iload_n 3, 1) := by decide +kernel
theorem dX8_become_13 : decode cX8_become 13 = .ok (.aload_n 1, 1) := by decide +kernel
theorem dX8_become_14 : decode cX8_become 14 = .ok (.arraylength, 1) := by decide +kernel
theorem dX8_become_15 : decode cX8_become 15 = .ok (.if_icmp .ge 35, 3) := by decide +kernel
theorem dX8_become_18 : decode cX8_become 18 = .ok (.iload_n 3, 1) := by decide +kernel
theorem dX8_become_19 : decode cX8_become 19 = .ok (.sipush 128, 3) := by decide +kernel
theorem dX8_become_22 : decode cX8_become 22 = .ok (.if_icmp .ge 28, 3) := by decide +kernel
theorem dX8_become_25 : decode cX8_become 25 = .ok (.aload_n 0, 1) := by decide +kernel
theorem dX8_become_26 : decode cX8_become 26 = .ok (.getfield 9, 3) := by decide +kernel
theorem dX8_become_29 : decode cX8_become 29 = .ok (.iload_n 3, 1) := by decide +kernel
theorem dX8_become_30 : decode cX8_become 30 = .ok (.aload_n 1, 1) := by decide +kernel
theorem dX8_become_31 : decode cX8_become 31 = .ok (.iload_n 3, 1) := by decide +kernel
theorem dX8_become_32 : decode cX8_become 32 = .ok (.iaload, 1) := by decide +kernel
theorem dX8_become_33 : decode cX8_become 33 = .ok (.iastore, 1) := by decide +kernel
theorem dX8_become_34 : decode cX8_become 34 = .ok (.aload_n 0, 1) := by decide +kernel
theorem dX8_become_35 : decode cX8_become 35 = .ok (.dup, 1) := by decide +kernel
theorem dX8_become_36 : decode cX8_become 36 = .ok (.getfield 21, 3) := by decide +kernel
theorem dX8_become_39 : decode cX8_become 39 = .ok (.iconst 1, 1) := by decide +kernel
theorem dX8_become_40 : decode cX8_become 40 = .ok (.iadd, 1) := by decide +kernel
theorem dX8_become_41 : decode cX8_become 41 = .ok (.putfield 21, 3) := by decide +kernel
theorem dX8_become_44 : decode cX8_become 44 = .ok (.iinc 3 1, 3) := by decide +kernel
theorem dX8_become_47 : decode cX8_become 47 = .ok (.goto (-40), 3) := by decide +kernel
theorem dX8_become_50 : decode cX8_become 50 = .ok (.aload_n 0, 1) := by decide +kernel
theorem dX8_become_51 : decode cX8_become 51 = .ok (.iconst 1, 1) := by decide +kernel
theorem dX8_become_52 : decode cX8_become 52 = .ok (.putfield 25, 3) := by decide +kernel
theorem dX8_become_55 : decode cX8_become 55 = .ok (.return_, 1) := by decide +kernel
set_option maxRecDepth 20000 in
theorem ggX8_worked_X8_operandsOf : GoodIn wsX8_worked wsX8_operandsOf := goodIn_r _ [7] rfl (by decide +kernel)
set_option maxRecDepth 20000 in
theorem gX8_worked_X8_operandsOf : GoodIn wsX8_worked (va_wsS RX8 29 yX8_operandsOf wsX8_operandsOf) := goodIn_app (goodIn_r _ [4, 5, 6] rfl (by decide +kernel)) ggX8_worked_X8_operandsOf
set_option maxRecDepth 20000 in
theorem ggX8_worked_X8_told : GoodIn wsX8_worked wsX8_told := goodIn_r _ [11, 12, 16, 17, 18, 19, 20] rfl (by decide +kernel)
set_option maxRecDepth 20000 in
theorem gX8_worked_X8_told : GoodIn wsX8_worked (wsV RX8 33 RX8 yX8_told wsX8_told) := goodIn_app (goodIn_r _ [8, 9, 10, 6] rfl (by decide +kernel)) ggX8_worked_X8_told
set_option maxRecDepth 20000 in
theorem ggX8_worked_X8_joined : GoodIn wsX8_worked wsX8_joined := goodIn_r _ [15] rfl (by decide +kernel)
set_option maxRecDepth 20000 in
theorem gX8_worked_X8_joined : GoodIn wsX8_worked (va_wsS RX8 36 yX8_joined wsX8_joined) := goodIn_app (goodIn_r _ [13, 14, 6] rfl (by decide +kernel)) ggX8_worked_X8_joined
theorem dX8_worked_0 : decode cX8_worked 0 = .ok (.iconst 0, 1) := by decide +kernel
theorem dX8_worked_1 : decode cX8_worked 1 = .ok (.istore_n 1, 1) := by decide +kernel
theorem dX8_worked_2 : decode cX8_worked 2 = .ok (.iconst 0, 1) := by decide +kernel
theorem dX8_worked_3 : decode cX8_worked 3 = .ok (.istore_n 2, 1) := by decide +kernel
theorem dX8_worked_4 : decode cX8_worked 4 = .ok (.iload_n 2, 1) := by decide +kernel
theorem dX8_worked_5 : decode cX8_worked 5 = .ok (.aload_n 0, 1) := by decide +kernel
theorem dX8_worked_6 : decode cX8_worked 6 = .ok (.getfield 21, 3) := by decide +kernel
theorem dX8_worked_9 : decode cX8_worked 9 = .ok (.if_icmp .ge 166, 3) := by decide +kernel
theorem dX8_worked_12 : decode cX8_worked 12 = .ok (.iload_n 2, 1) := by decide +kernel
theorem dX8_worked_13 : decode cX8_worked 13 = .ok (.sipush 128, 3) := by decide +kernel
theorem dX8_worked_16 : decode cX8_worked 16 = .ok (.if_icmp .ge 159, 3) := by decide +kernel
theorem dX8_worked_19 : decode cX8_worked 19 = .ok (.aload_n 0, 1) := by decide +kernel
theorem dX8_worked_20 : decode cX8_worked 20 = .ok (.getfield 9, 3) := by decide +kernel
theorem dX8_worked_23 : decode cX8_worked 23 = .ok (.iload_n 2, 1) := by decide +kernel
theorem dX8_worked_24 : decode cX8_worked 24 = .ok (.iaload, 1) := by decide +kernel
theorem dX8_worked_25 : decode cX8_worked 25 = .ok (.istore_n 3, 1) := by decide +kernel
theorem dX8_worked_26 : decode cX8_worked 26 = .ok (.iload_n 3, 1) := by decide +kernel
theorem dX8_worked_27 : decode cX8_worked 27 = .ok (.invokestatic 29, 3) := by decide +kernel
theorem dX8_worked_30 : decode cX8_worked 30 = .ok (.istore 4, 2) := by decide +kernel
theorem dX8_worked_32 : decode cX8_worked 32 = .ok (.iload_n 1, 1) := by decide +kernel
theorem dX8_worked_33 : decode cX8_worked 33 = .ok (.iload 4, 2) := by decide +kernel
theorem dX8_worked_35 : decode cX8_worked 35 = .ok (.if_icmp .lt 13, 3) := by decide +kernel
theorem dX8_worked_38 : decode cX8_worked 38 = .ok (.iload_n 1, 1) := by decide +kernel
theorem dX8_worked_39 : decode cX8_worked 39 = .ok (.iload 4, 2) := by decide +kernel
theorem dX8_worked_41 : decode cX8_worked 41 = .ok (.isub, 1) := by decide +kernel
theorem dX8_worked_42 : decode cX8_worked 42 = .ok (.sipush 128, 3) := by decide +kernel
theorem dX8_worked_45 : decode cX8_worked 45 = .ok (.if_icmp .lt 5, 3) := by decide +kernel
theorem dX8_worked_48 : decode cX8_worked 48 = .ok (.iconst 0, 1) := by decide +kernel
theorem dX8_worked_49 : decode cX8_worked 49 = .ok (.ireturn, 1) := by decide +kernel
theorem dX8_worked_50 : decode cX8_worked 50 = .ok (.iload_n 1, 1) := by decide +kernel
theorem dX8_worked_51 : decode cX8_worked 51 = .ok (.iload 4, 2) := by decide +kernel
theorem dX8_worked_53 : decode cX8_worked 53 = .ok (.isub, 1) := by decide +kernel
theorem dX8_worked_54 : decode cX8_worked 54 = .ok (.istore_n 1, 1) := by decide +kernel
theorem dX8_worked_55 : decode cX8_worked 55 = .ok (.iload 4, 2) := by decide +kernel
theorem dX8_worked_57 : decode cX8_worked 57 = .ok (.ifCond .le 12, 3) := by decide +kernel
theorem dX8_worked_60 : decode cX8_worked 60 = .ok (.aload_n 0, 1) := by decide +kernel
theorem dX8_worked_61 : decode cX8_worked 61 = .ok (.getfield 15, 3) := by decide +kernel
theorem dX8_worked_64 : decode cX8_worked 64 = .ok (.iload_n 1, 1) := by decide +kernel
theorem dX8_worked_65 : decode cX8_worked 65 = .ok (.iaload, 1) := by decide +kernel
theorem dX8_worked_66 : decode cX8_worked 66 = .ok (.goto 4, 3) := by decide +kernel
theorem dX8_worked_69 : decode cX8_worked 69 = .ok (.iconst 0, 1) := by decide +kernel
theorem dX8_worked_70 : decode cX8_worked 70 = .ok (.istore 5, 2) := by decide +kernel
theorem dX8_worked_72 : decode cX8_worked 72 = .ok (.iload 4, 2) := by decide +kernel
theorem dX8_worked_74 : decode cX8_worked 74 = .ok (.iconst 1, 1) := by decide +kernel
theorem dX8_worked_75 : decode cX8_worked 75 = .ok (.if_icmp .le 14, 3) := by decide +kernel
theorem dX8_worked_78 : decode cX8_worked 78 = .ok (.aload_n 0, 1) := by decide +kernel
theorem dX8_worked_79 : decode cX8_worked 79 = .ok (.getfield 15, 3) := by decide +kernel
theorem dX8_worked_82 : decode cX8_worked 82 = .ok (.iload_n 1, 1) := by decide +kernel
theorem dX8_worked_83 : decode cX8_worked 83 = .ok (.iconst 1, 1) := by decide +kernel
theorem dX8_worked_84 : decode cX8_worked 84 = .ok (.iadd, 1) := by decide +kernel
theorem dX8_worked_85 : decode cX8_worked 85 = .ok (.iaload, 1) := by decide +kernel
theorem dX8_worked_86 : decode cX8_worked 86 = .ok (.goto 4, 3) := by decide +kernel
theorem dX8_worked_89 : decode cX8_worked 89 = .ok (.iconst 0, 1) := by decide +kernel
theorem dX8_worked_90 : decode cX8_worked 90 = .ok (.istore 6, 2) := by decide +kernel
theorem dX8_worked_92 : decode cX8_worked 92 = .ok (.iload_n 3, 1) := by decide +kernel
theorem dX8_worked_93 : decode cX8_worked 93 = .ok (.sipush 20000, 3) := by decide +kernel
theorem dX8_worked_96 : decode cX8_worked 96 = .ok (.if_icmp .eq 15, 3) := by decide +kernel
theorem dX8_worked_99 : decode cX8_worked 99 = .ok (.iload_n 3, 1) := by decide +kernel
theorem dX8_worked_100 : decode cX8_worked 100 = .ok (.sipush 20001, 3) := by decide +kernel
theorem dX8_worked_103 : decode cX8_worked 103 = .ok (.if_icmp .ne 23, 3) := by decide +kernel
theorem dX8_worked_106 : decode cX8_worked 106 = .ok (.iload 5, 2) := by decide +kernel
theorem dX8_worked_108 : decode cX8_worked 108 = .ok (.ifCond .eq 18, 3) := by decide +kernel
theorem dX8_worked_111 : decode cX8_worked 111 = .ok (.iload_n 3, 1) := by decide +kernel
theorem dX8_worked_112 : decode cX8_worked 112 = .ok (.sipush 20000, 3) := by decide +kernel
theorem dX8_worked_115 : decode cX8_worked 115 = .ok (.if_icmp .ne 8, 3) := by decide +kernel
theorem dX8_worked_118 : decode cX8_worked 118 = .ok (.iload 5, 2) := by decide +kernel
theorem dX8_worked_120 : decode cX8_worked 120 = .ok (.goto 5, 3) := by decide +kernel
theorem dX8_worked_123 : decode cX8_worked 123 = .ok (.iload 6, 2) := by decide +kernel
theorem dX8_worked_125 : decode cX8_worked 125 = .ok (.ireturn, 1) := by decide +kernel
theorem dX8_worked_126 : decode cX8_worked 126 = .ok (.iload_n 3, 1) := by decide +kernel
theorem dX8_worked_127 : decode cX8_worked 127 = .ok (.sipush 20001, 3) := by decide +kernel
theorem dX8_worked_130 : decode cX8_worked 130 = .ok (.if_icmp .eq 39, 3) := by decide +kernel
theorem dX8_worked_133 : decode cX8_worked 133 = .ok (.aload_n 0, 1) := by decide +kernel
theorem dX8_worked_134 : decode cX8_worked 134 = .ok (.getfield 15, 3) := by decide +kernel
theorem dX8_worked_137 : decode cX8_worked 137 = .ok (.iload_n 1, 1) := by decide +kernel
theorem dX8_worked_138 : decode cX8_worked 138 = .ok (.iload_n 3, 1) := by decide +kernel
theorem dX8_worked_139 : decode cX8_worked 139 = .ok (.sipush 30000, 3) := by decide +kernel
theorem dX8_worked_142 : decode cX8_worked 142 = .ok (.if_icmp .ge 11, 3) := by decide +kernel
theorem dX8_worked_145 : decode cX8_worked 145 = .ok (.aload_n 0, 1) := by decide +kernel
theorem dX8_worked_146 : decode cX8_worked 146 = .ok (.iload_n 3, 1) := by decide +kernel
theorem dX8_worked_147 : decode cX8_worked 147 = .ok (.invokevirtual 33, 3) := by decide +kernel
theorem dX8_worked_150 : decode cX8_worked 150 = .ok (.goto 15, 3) := by decide +kernel
theorem dX8_worked_153 : decode cX8_worked 153 = .ok (.iload_n 3, 1) := by decide +kernel
theorem dX8_worked_154 : decode cX8_worked 154 = .ok (.sipush 30000, 3) := by decide +kernel
theorem dX8_worked_157 : decode cX8_worked 157 = .ok (.isub, 1) := by decide +kernel
theorem dX8_worked_158 : decode cX8_worked 158 = .ok (.iload 5, 2) := by decide +kernel
theorem dX8_worked_160 : decode cX8_worked 160 = .ok (.iload 6, 2) := by decide +kernel
theorem dX8_worked_162 : decode cX8_worked 162 = .ok (.invokestatic 36, 3) := by decide +kernel
theorem dX8_worked_165 : decode cX8_worked 165 = .ok (.iastore, 1) := by decide +kernel
theorem dX8_worked_166 : decode cX8_worked 166 = .ok (.iinc 1 1, 3) := by decide +kernel
theorem dX8_worked_169 : decode cX8_worked 169 = .ok (.iinc 2 1, 3) := by decide +kernel
theorem dX8_worked_172 : decode cX8_worked 172 = .ok (.goto (-168), 3) := by decide +kernel
theorem dX8_worked_175 : decode cX8_worked 175 = .ok (.iconst 0, 1) := by decide +kernel
theorem dX8_worked_176 : decode cX8_worked 176 = .ok (.ireturn, 1) := by decide +kernel
theorem dX8_told_0 : decode cX8_told 0 = .ok (.iload_n 1, 1) := by decide +kernel
theorem dX8_told_1 : decode cX8_told 1 = .ok (.sipush 10000, 3) := by decide +kernel
theorem dX8_told_4 : decode cX8_told 4 = .ok (.isub, 1) := by decide +kernel
theorem dX8_told_5 : decode cX8_told 5 = .ok (.istore_n 2, 1) := by decide +kernel
theorem dX8_told_6 : decode cX8_told 6 = .ok (.iload_n 2, 1) := by decide +kernel
theorem dX8_told_7 : decode cX8_told 7 = .ok (.ifCond .ge 7, 3) := by decide +kernel
theorem dX8_told_10 : decode cX8_told 10 = .ok (.iload_n 1, 1) := by decide +kernel
theorem dX8_told_11 : decode cX8_told 11 = .ok (.goto 19, 3) := by decide +kernel
theorem dX8_told_14 : decode cX8_told 14 = .ok (.iload_n 2, 1) := by decide +kernel
theorem dX8_told_15 : decode cX8_told 15 = .ok (.bipush 7, 2) := by decide +kernel
theorem dX8_told_17 : decode cX8_told 17 = .ok (.if_icmp .ge 12, 3) := by decide +kernel
theorem dX8_told_20 : decode cX8_told 20 = .ok (.aload_n 0, 1) := by decide +kernel
theorem dX8_told_21 : decode cX8_told 21 = .ok (.getfield 18, 3) := by decide +kernel
theorem dX8_told_24 : decode cX8_told 24 = .ok (.iload_n 2, 1) := by decide +kernel
theorem dX8_told_25 : decode cX8_told 25 = .ok (.iaload, 1) := by decide +kernel
theorem dX8_told_26 : decode cX8_told 26 = .ok (.goto 4, 3) := by decide +kernel
theorem dX8_told_29 : decode cX8_told 29 = .ok (.iconst 0, 1) := by decide +kernel
theorem dX8_told_30 : decode cX8_told 30 = .ok (.ireturn, 1) := by decide +kernel
theorem dX8_operandsOf_0 : decode cX8_operandsOf 0 = .ok (.iload_n 0, 1) := by decide +kernel
theorem dX8_operandsOf_1 : decode cX8_operandsOf 1 = .ok (.sipush 20000, 3) := by decide +kernel
theorem dX8_operandsOf_4 : decode cX8_operandsOf 4 = .ok (.if_icmp .ge 5, 3) := by decide +kernel
theorem dX8_operandsOf_7 : decode cX8_operandsOf 7 = .ok (.iconst 0, 1) := by decide +kernel
theorem dX8_operandsOf_8 : decode cX8_operandsOf 8 = .ok (.ireturn, 1) := by decide +kernel
theorem dX8_operandsOf_9 : decode cX8_operandsOf 9 = .ok (.iload_n 0, 1) := by decide +kernel
theorem dX8_operandsOf_10 : decode cX8_operandsOf 10 = .ok (.sipush 20000, 3) := by decide +kernel
theorem dX8_operandsOf_13 : decode cX8_operandsOf 13 = .ok (.if_icmp .eq 17, 3) := by decide +kernel
theorem dX8_operandsOf_16 : decode cX8_operandsOf 16 = .ok (.iload_n 0, 1) := by decide +kernel
theorem dX8_operandsOf_17 : decode cX8_operandsOf 17 = .ok (.sipush 30000, 3) := by decide +kernel
theorem dX8_operandsOf_20 : decode cX8_operandsOf 20 = .ok (.if_icmp .eq 10, 3) := by decide +kernel
theorem dX8_operandsOf_23 : decode cX8_operandsOf 23 = .ok (.iload_n 0, 1) := by decide +kernel
theorem dX8_operandsOf_24 : decode cX8_operandsOf 24 = .ok (.sipush 30033, 3) := by decide +kernel
theorem dX8_operandsOf_27 : decode cX8_operandsOf 27 = .ok (.if_icmp .ne 7, 3) := by decide +kernel
theorem dX8_operandsOf_30 : decode cX8_operandsOf 30 = .ok (.iconst 1, 1) := by decide +kernel
theorem dX8_operandsOf_31 : decode cX8_operandsOf 31 = .ok (.goto 4, 3) := by decide +kernel
theorem dX8_operandsOf_34 : decode cX8_operandsOf 34 = .ok (.iconst 2, 1) := by decide +kernel
theorem dX8_operandsOf_35 : decode cX8_operandsOf 35 = .ok (.ireturn, 1) := by decide +kernel
theorem dX8_joined_0 : decode cX8_joined 0 = .ok (.iload_n 0, 1) := by decide +kernel
theorem dX8_joined_1 : decode cX8_joined 1 = .ok (.lookupswitch 217 #[(0, 107), (33, 110), (37, 205), (38, 134), (42, 189), (43, 181), (45, 185), (47, 193), (60, 148), (61, 159), (62, 170), (124, 120)], 107) := by decide +kernel
theorem dX8_joined_108 : decode cX8_joined 108 = .ok (.iload_n 1, 1) := by decide +kernel
theorem dX8_joined_109 : decode cX8_joined 109 = .ok (.ineg, 1) := by decide +kernel
theorem dX8_joined_110 : decode cX8_joined 110 = .ok (.ireturn, 1) := by decide +kernel
theorem dX8_joined_111 : decode cX8_joined 111 = .ok (.iload_n 1, 1) := by decide +kernel
theorem dX8_joined_112 : decode cX8_joined 112 = .ok (.ifCond .ne 7, 3) := by decide +kernel
theorem dX8_joined_115 : decode cX8_joined 115 = .ok (.iconst 1, 1) := by decide +kernel
theorem dX8_joined_116 : decode cX8_joined 116 = .ok (.goto 4, 3) := by decide +kernel
theorem dX8_joined_119 : decode cX8_joined 119 = .ok (.iconst 0, 1) := by decide +kernel
theorem dX8_joined_120 : decode cX8_joined 120 = .ok (.ireturn, 1) := by decide +kernel
theorem dX8_joined_121 : decode cX8_joined 121 = .ok (.iload_n 1, 1) := by decide +kernel
theorem dX8_joined_122 : decode cX8_joined 122 = .ok (.ifCond .ne 7, 3) := by decide +kernel
theorem dX8_joined_125 : decode cX8_joined 125 = .ok (.iload_n 2, 1) := by decide +kernel
theorem dX8_joined_126 : decode cX8_joined 126 = .ok (.ifCond .eq 7, 3) := by decide +kernel
theorem dX8_joined_129 : decode cX8_joined 129 = .ok (.iconst 1, 1) := by decide +kernel
theorem dX8_joined_130 : decode cX8_joined 130 = .ok (.goto 4, 3) := by decide +kernel
theorem dX8_joined_133 : decode cX8_joined 133 = .ok (.iconst 0, 1) := by decide +kernel
theorem dX8_joined_134 : decode cX8_joined 134 = .ok (.ireturn, 1) := by decide +kernel
theorem dX8_joined_135 : decode cX8_joined 135 = .ok (.iload_n 1, 1) := by decide +kernel
theorem dX8_joined_136 : decode cX8_joined 136 = .ok (.ifCond .eq 11, 3) := by decide +kernel
theorem dX8_joined_139 : decode cX8_joined 139 = .ok (.iload_n 2, 1) := by decide +kernel
theorem dX8_joined_140 : decode cX8_joined 140 = .ok (.ifCond .eq 7, 3) := by decide +kernel
theorem dX8_joined_143 : decode cX8_joined 143 = .ok (.iconst 1, 1) := by decide +kernel
theorem dX8_joined_144 : decode cX8_joined 144 = .ok (.goto 4, 3) := by decide +kernel
theorem dX8_joined_147 : decode cX8_joined 147 = .ok (.iconst 0, 1) := by decide +kernel
theorem dX8_joined_148 : decode cX8_joined 148 = .ok (.ireturn, 1) := by decide +kernel
theorem dX8_joined_149 : decode cX8_joined 149 = .ok (.iload_n 1, 1) := by decide +kernel
theorem dX8_joined_150 : decode cX8_joined 150 = .ok (.iload_n 2, 1) := by decide +kernel
theorem dX8_joined_151 : decode cX8_joined 151 = .ok (.if_icmp .ge 7, 3) := by decide +kernel
theorem dX8_joined_154 : decode cX8_joined 154 = .ok (.iconst 1, 1) := by decide +kernel
theorem dX8_joined_155 : decode cX8_joined 155 = .ok (.goto 4, 3) := by decide +kernel
theorem dX8_joined_158 : decode cX8_joined 158 = .ok (.iconst 0, 1) := by decide +kernel
theorem dX8_joined_159 : decode cX8_joined 159 = .ok (.ireturn, 1) := by decide +kernel
theorem dX8_joined_160 : decode cX8_joined 160 = .ok (.iload_n 1, 1) := by decide +kernel
theorem dX8_joined_161 : decode cX8_joined 161 = .ok (.iload_n 2, 1) := by decide +kernel
theorem dX8_joined_162 : decode cX8_joined 162 = .ok (.if_icmp .ne 7, 3) := by decide +kernel
theorem dX8_joined_165 : decode cX8_joined 165 = .ok (.iconst 1, 1) := by decide +kernel
theorem dX8_joined_166 : decode cX8_joined 166 = .ok (.goto 4, 3) := by decide +kernel
theorem dX8_joined_169 : decode cX8_joined 169 = .ok (.iconst 0, 1) := by decide +kernel
theorem dX8_joined_170 : decode cX8_joined 170 = .ok (.ireturn, 1) := by decide +kernel
theorem dX8_joined_171 : decode cX8_joined 171 = .ok (.iload_n 1, 1) := by decide +kernel
theorem dX8_joined_172 : decode cX8_joined 172 = .ok (.iload_n 2, 1) := by decide +kernel
theorem dX8_joined_173 : decode cX8_joined 173 = .ok (.if_icmp .le 7, 3) := by decide +kernel
theorem dX8_joined_176 : decode cX8_joined 176 = .ok (.iconst 1, 1) := by decide +kernel
theorem dX8_joined_177 : decode cX8_joined 177 = .ok (.goto 4, 3) := by decide +kernel
theorem dX8_joined_180 : decode cX8_joined 180 = .ok (.iconst 0, 1) := by decide +kernel
theorem dX8_joined_181 : decode cX8_joined 181 = .ok (.ireturn, 1) := by decide +kernel
theorem dX8_joined_182 : decode cX8_joined 182 = .ok (.iload_n 1, 1) := by decide +kernel
theorem dX8_joined_183 : decode cX8_joined 183 = .ok (.iload_n 2, 1) := by decide +kernel
theorem dX8_joined_184 : decode cX8_joined 184 = .ok (.iadd, 1) := by decide +kernel
theorem dX8_joined_185 : decode cX8_joined 185 = .ok (.ireturn, 1) := by decide +kernel
theorem dX8_joined_186 : decode cX8_joined 186 = .ok (.iload_n 1, 1) := by decide +kernel
theorem dX8_joined_187 : decode cX8_joined 187 = .ok (.iload_n 2, 1) := by decide +kernel
theorem dX8_joined_188 : decode cX8_joined 188 = .ok (.isub, 1) := by decide +kernel
theorem dX8_joined_189 : decode cX8_joined 189 = .ok (.ireturn, 1) := by decide +kernel
theorem dX8_joined_190 : decode cX8_joined 190 = .ok (.iload_n 1, 1) := by decide +kernel
theorem dX8_joined_191 : decode cX8_joined 191 = .ok (.iload_n 2, 1) := by decide +kernel
theorem dX8_joined_192 : decode cX8_joined 192 = .ok (.imul, 1) := by decide +kernel
theorem dX8_joined_193 : decode cX8_joined 193 = .ok (.ireturn, 1) := by decide +kernel
theorem dX8_joined_194 : decode cX8_joined 194 = .ok (.iload_n 2, 1) := by decide +kernel
theorem dX8_joined_195 : decode cX8_joined 195 = .ok (.ifCond .ne 7, 3) := by decide +kernel
theorem dX8_joined_198 : decode cX8_joined 198 = .ok (.iconst 0, 1) := by decide +kernel
theorem dX8_joined_199 : decode cX8_joined 199 = .ok (.goto 6, 3) := by decide +kernel
theorem dX8_joined_202 : decode cX8_joined 202 = .ok (.iload_n 1, 1) := by decide +kernel
theorem dX8_joined_203 : decode cX8_joined 203 = .ok (.iload_n 2, 1) := by decide +kernel
theorem dX8_joined_204 : decode cX8_joined 204 = .ok (.idiv, 1) := by decide +kernel
theorem dX8_joined_205 : decode cX8_joined 205 = .ok (.ireturn, 1) := by decide +kernel
theorem dX8_joined_206 : decode cX8_joined 206 = .ok (.iload_n 2, 1) := by decide +kernel
theorem dX8_joined_207 : decode cX8_joined 207 = .ok (.ifCond .ne 7, 3) := by decide +kernel
theorem dX8_joined_210 : decode cX8_joined 210 = .ok (.iconst 0, 1) := by decide +kernel
theorem dX8_joined_211 : decode cX8_joined 211 = .ok (.goto 6, 3) := by decide +kernel
theorem dX8_joined_214 : decode cX8_joined 214 = .ok (.iload_n 1, 1) := by decide +kernel
theorem dX8_joined_215 : decode cX8_joined 215 = .ok (.iload_n 2, 1) := by decide +kernel
theorem dX8_joined_216 : decode cX8_joined 216 = .ok (.irem, 1) := by decide +kernel
theorem dX8_joined_217 : decode cX8_joined 217 = .ok (.ireturn, 1) := by decide +kernel
theorem dX8_joined_218 : decode cX8_joined 218 = .ok (.iconst 0, 1) := by decide +kernel
theorem dX8_joined_219 : decode cX8_joined 219 = .ok (.ireturn, 1) := by decide +kernel
theorem dX9_init_0 : decode cX9_init 0 = .ok (.aload_n 0, 1) := by decide +kernel
theorem dX9_init_1 : decode cX9_init 1 = .ok (.invokespecial 3, 3) := by decide +kernel
theorem dX9_init_4 : decode cX9_init 4 = .ok (.aload_n 0, 1) := by decide +kernel
theorem dX9_init_5 : decode cX9_init 5 = .ok (.bipush 10, 2) := by decide +kernel
theorem dX9_init_7 : decode cX9_init 7 = .ok (.newarray .int, 2) := by decide +kernel
theorem dX9_init_9 : decode cX9_init 9 = .ok (.putfield 9, 3) := by decide +kernel
theorem dX9_init_12 : decode cX9_init 12 = .ok (.aload_n 0, 1) := by decide +kernel
theorem dX9_init_13 : decode cX9_init 13 = .ok (.bipush 10, 2) := by decide +kernel
theorem dX9_init_15 : decode cX9_init 15 = .ok (.newarray .int, 2) := by decide +kernel
theorem dX9_init_17 : decode cX9_init 17 = .ok (.putfield 15, 3) := by decide +kernel
theorem dX9_init_20 : decode cX9_init 20 = .ok (.aload_n 0, 1) := by decide +kernel
theorem dX9_init_21 : decode cX9_init 21 = .ok (.bipush 10, 2) := by decide +kernel
theorem dX9_init_23 : decode cX9_init 23 = .ok (.newarray .int, 2) := by decide +kernel
theorem dX9_init_25 : decode cX9_init 25 = .ok (.putfield 18, 3) := by decide +kernel
theorem dX9_init_28 : decode cX9_init 28 = .ok (.aload_n 0, 1) := by decide +kernel
theorem dX9_init_29 : decode cX9_init 29 = .ok (.bipush 10, 2) := by decide +kernel
theorem dX9_init_31 : decode cX9_init 31 = .ok (.newarray .int, 2) := by decide +kernel
theorem dX9_init_33 : decode cX9_init 33 = .ok (.putfield 21, 3) := by decide +kernel
theorem dX9_init_36 : decode cX9_init 36 = .ok (.return_, 1) := by decide +kernel
set_option maxRecDepth 20000 in
theorem ggX9_fits_X11_isLand : GoodIn wsX9_fits wsX11_isLand := goodIn_r _ [3, 4, 5, 2, 6] rfl (by decide +kernel)
set_option maxRecDepth 20000 in
theorem gX9_fits_X11_isLand_n24 : GoodIn wsX9_fits (wsX11_isLand) := ggX9_fits_X11_isLand
set_option maxRecDepth 20000 in
theorem ggX9_fits_X11_within : GoodIn wsX9_fits wsX11_within := goodIn_r _ [6] rfl (by decide +kernel)
set_option maxRecDepth 20000 in
theorem gX9_fits_X11_within_n28 : GoodIn wsX9_fits (wsX11_within) := ggX9_fits_X11_within
theorem dX9_fits_0 : decode cX9_fits 0 = .ok (.iload_n 0, 1) := by decide +kernel
theorem dX9_fits_1 : decode cX9_fits 1 = .ok (.invokestatic 24, 3) := by decide +kernel
theorem dX9_fits_4 : decode cX9_fits 4 = .ok (.ifCond .eq 28, 3) := by decide +kernel
theorem dX9_fits_7 : decode cX9_fits 7 = .ok (.iload_n 1, 1) := by decide +kernel
theorem dX9_fits_8 : decode cX9_fits 8 = .ok (.iconst 1, 1) := by decide +kernel
theorem dX9_fits_9 : decode cX9_fits 9 = .ok (.sipush 200, 3) := by decide +kernel
theorem dX9_fits_12 : decode cX9_fits 12 = .ok (.invokestatic 28, 3) := by decide +kernel
theorem dX9_fits_15 : decode cX9_fits 15 = .ok (.ifCond .eq 17, 3) := by decide +kernel
theorem dX9_fits_18 : decode cX9_fits 18 = .ok (.iload_n 2, 1) := by decide +kernel
theorem dX9_fits_19 : decode cX9_fits 19 = .ok (.iconst 0, 1) := by decide +kernel
theorem dX9_fits_20 : decode cX9_fits 20 = .ok (.bipush 99, 2) := by decide +kernel
theorem dX9_fits_22 : decode cX9_fits 22 = .ok (.invokestatic 28, 3) := by decide +kernel
theorem dX9_fits_25 : decode cX9_fits 25 = .ok (.ifCond .eq 7, 3) := by decide +kernel
theorem dX9_fits_28 : decode cX9_fits 28 = .ok (.iconst 1, 1) := by decide +kernel
theorem dX9_fits_29 : decode cX9_fits 29 = .ok (.goto 4, 3) := by decide +kernel
theorem dX9_fits_32 : decode cX9_fits 32 = .ok (.iconst 0, 1) := by decide +kernel
theorem dX9_fits_33 : decode cX9_fits 33 = .ok (.ireturn, 1) := by decide +kernel
theorem dX9_knows_0 : decode cX9_knows 0 = .ok (.iload_n 1, 1) := by decide +kernel
theorem dX9_knows_1 : decode cX9_knows 1 = .ok (.ifCond .lt 15, 3) := by decide +kernel
theorem dX9_knows_4 : decode cX9_knows 4 = .ok (.iload_n 1, 1) := by decide +kernel
theorem dX9_knows_5 : decode cX9_knows 5 = .ok (.aload_n 0, 1) := by decide +kernel
theorem dX9_knows_6 : decode cX9_knows 6 = .ok (.getfield 32, 3) := by decide +kernel
theorem dX9_knows_9 : decode cX9_knows 9 = .ok (.if_icmp .ge 7, 3) := by decide +kernel
theorem dX9_knows_12 : decode cX9_knows 12 = .ok (.iconst 1, 1) := by decide +kernel
theorem dX9_knows_13 : decode cX9_knows 13 = .ok (.goto 4, 3) := by decide +kernel
theorem dX9_knows_16 : decode cX9_knows 16 = .ok (.iconst 0, 1) := by decide +kernel
theorem dX9_knows_17 : decode cX9_knows 17 = .ok (.ireturn, 1) := by decide +kernel
set_option maxRecDepth 20000 in
theorem ggX9_add_X11_bounded : GoodIn wsX9_add wsX11_bounded := goodIn_r _ [8, 9, 10, 11, 12, 13, 14, 15] rfl (by decide +kernel)
set_option maxRecDepth 20000 in
theorem gX9_add_X11_bounded_n36 : GoodIn wsX9_add (wsX11_bounded) := ggX9_add_X11_bounded
theorem dX9_add_0 : decode cX9_add 0 = .ok (.aload_n 0, 1) := by decide +kernel
theorem dX9_add_1 : decode cX9_add 1 = .ok (.getfield 32, 3) := by decide +kernel
theorem dX9_add_4 : decode cX9_add 4 = .ok (.bipush 10, 2) := by decide +kernel
theorem dX9_add_6 : decode cX9_add 6 = .ok (.if_icmp .lt 5, 3) := by decide +kernel
theorem dX9_add_9 : decode cX9_add 9 = .ok (.iconst 0, 1) := by decide +kernel
theorem dX9_add_10 : decode cX9_add 10 = .ok (.ireturn, 1) := by decide +kernel
theorem dX9_add_11 : decode cX9_add 11 = .ok (.aload_n 0, 1) := by decide +kernel
theorem dX9_add_12 : decode cX9_add 12 = .ok (.getfield 9, 3) := by decide +kernel
theorem dX9_add_15 : decode cX9_add 15 = .ok (.aload_n 0, 1) := by decide +kernel
theorem dX9_add_16 : decode cX9_add 16 = .ok (.getfield 32, 3) := by decide +kernel
theorem dX9_add_19 : decode cX9_add 19 = .ok (.iload_n 1, 1) := by decide +kernel
theorem dX9_add_20 : decode cX9_add 20 = .ok (.iastore, 1) := by decide +kernel
theorem dX9_add_21 : decode cX9_add 21 = .ok (.aload_n 0, 1) := by decide +kernel
theorem dX9_add_22 : decode cX9_add 22 = .ok (.getfield 15, 3) := by decide +kernel
theorem dX9_add_25 : decode cX9_add 25 = .ok (.aload_n 0, 1) := by decide +kernel
theorem dX9_add_26 : decode cX9_add 26 = .ok (.getfield 32, 3) := by decide +kernel
theorem dX9_add_29 : decode cX9_add 29 = .ok (.iload_n 2, 1) := by decide +kernel
theorem dX9_add_30 : decode cX9_add 30 = .ok (.iastore, 1) := by decide +kernel
theorem dX9_add_31 : decode cX9_add 31 = .ok (.aload_n 0, 1) := by decide +kernel
theorem dX9_add_32 : decode cX9_add 32 = .ok (.getfield 18, 3) := by decide +kernel
theorem dX9_add_35 : decode cX9_add 35 = .ok (.aload_n 0, 1) := by decide +kernel
theorem dX9_add_36 : decode cX9_add 36 = .ok (.getfield 32, 3) := by decide +kernel
theorem dX9_add_39 : decode cX9_add 39 = .ok (.iload_n 3, 1) := by decide +kernel
theorem dX9_add_40 : decode cX9_add 40 = .ok (.iastore, 1) := by decide +kernel
theorem dX9_add_41 : decode cX9_add 41 = .ok (.aload_n 0, 1) := by decide +kernel
theorem dX9_add_42 : decode cX9_add 42 = .ok (.getfield 21, 3) := by decide +kernel
theorem dX9_add_45 : decode cX9_add 45 = .ok (.aload_n 0, 1) := by decide +kernel
theorem dX9_add_46 : decode cX9_add 46 = .ok (.getfield 32, 3) := by decide +kernel
theorem dX9_add_49 : decode cX9_add 49 = .ok (.iload 4, 2) := by decide +kernel
theorem dX9_add_51 : decode cX9_add 51 = .ok (.iconst 0, 1) := by decide +kernel
theorem dX9_add_52 : decode cX9_add 52 = .ok (.bipush 9, 2) := by decide +kernel
theorem dX9_add_54 : decode cX9_add 54 = .ok (.invokestatic 36, 3) := by decide +kernel
theorem dX9_add_57 : decode cX9_add 57 = .ok (.iastore, 1) := by decide +kernel
theorem dX9_add_58 : decode cX9_add 58 = .ok (.aload_n 0, 1) := by decide +kernel
theorem dX9_add_59 : decode cX9_add 59 = .ok (.dup, 1) := by decide +kernel
theorem dX9_add_60 : decode cX9_add 60 = .ok (.getfield 32, 3) := by decide +kernel
theorem dX9_add_63 : decode cX9_add 63 = .ok (.iconst 1, 1) := by decide +kernel
theorem dX9_add_64 : decode cX9_add 64 = .ok (.iadd, 1) := by decide +kernel
theorem dX9_add_65 : decode cX9_add 65 = .ok (.putfield 32, 3) := by decide +kernel
theorem dX9_add_68 : decode cX9_add 68 = .ok (.iconst 1, 1) := by decide +kernel
theorem dX9_add_69 : decode cX9_add 69 = .ok (.ireturn, 1) := by decide +kernel
set_option maxRecDepth 20000 in
theorem ggX10_init_X8_init : GoodIn wsX10_init wsX8_init := goodIn_r _ [9, 10, 2, 3, 11, 12, 13, 14, 15, 16, 17, 18, 19] rfl (by decide +kernel)
set_option maxRecDepth 20000 in
theorem gX10_init_X8_init_n11 : GoodIn wsX10_init (wsX8_init) := ggX10_init_X8_init
theorem dX10_init_0 : decode cX10_init 0 = .ok (.aload_n 0, 1) := by decide +kernel
theorem dX10_init_1 : decode cX10_init 1 = .ok (.invokespecial 3, 3) := by decide +kernel
theorem dX10_init_4 : decode cX10_init 4 = .ok (.aload_n 0, 1) := by decide +kernel
theorem dX10_init_5 : decode cX10_init 5 = .ok (.new 9, 3) := by decide +kernel
theorem dX10_init_8 : decode cX10_init 8 = .ok (.dup, 1) := by decide +kernel
theorem dX10_init_9 : decode cX10_init 9 = .ok (.invokespecial 11, 3) := by decide +kernel
theorem dX10_init_12 : decode cX10_init 12 = .ok (.putfield 12, 3) := by decide +kernel
theorem dX10_init_15 : decode cX10_init 15 = .ok (.return_, 1) := by decide +kernel
theorem dX10_tellShare_0 : decode cX10_tellShare 0 = .ok (.aload_n 0, 1) := by decide +kernel
theorem dX10_tellShare_1 : decode cX10_tellShare 1 = .ok (.getfield 18, 3) := by decide +kernel
theorem dX10_tellShare_4 : decode cX10_tellShare 4 = .ok (.istore_n 2, 1) := by decide +kernel
theorem dX10_tellShare_5 : decode cX10_tellShare 5 = .ok (.aload_n 0, 1) := by decide +kernel
theorem dX10_tellShare_6 : decode cX10_tellShare 6 = .ok (.iload_n 1, 1) := by decide +kernel
theorem dX10_tellShare_7 : decode cX10_tellShare 7 = .ok (.putfield 18, 3) := by decide +kernel
theorem dX10_tellShare_10 : decode cX10_tellShare 10 = .ok (.iload_n 2, 1) := by decide +kernel
theorem dX10_tellShare_11 : decode cX10_tellShare 11 = .ok (.ireturn, 1) := by decide +kernel
theorem dX10_tellFee_0 : decode cX10_tellFee 0 = .ok (.aload_n 0, 1) := by decide +kernel
theorem dX10_tellFee_1 : decode cX10_tellFee 1 = .ok (.getfield 22, 3) := by decide +kernel
theorem dX10_tellFee_4 : decode cX10_tellFee 4 = .ok (.istore_n 2, 1) := by decide +kernel
theorem dX10_tellFee_5 : decode cX10_tellFee 5 = .ok (.aload_n 0, 1) := by decide +kernel
theorem dX10_tellFee_6 : decode cX10_tellFee 6 = .ok (.iload_n 1, 1) := by decide +kernel
theorem dX10_tellFee_7 : decode cX10_tellFee 7 = .ok (.putfield 22, 3) := by decide +kernel
theorem dX10_tellFee_10 : decode cX10_tellFee 10 = .ok (.iload_n 2, 1) := by decide +kernel
theorem dX10_tellFee_11 : decode cX10_tellFee 11 = .ok (.ireturn, 1) := by decide +kernel
set_option maxRecDepth 20000 in
theorem ggX10_rateOf_X8_worked : GoodIn wsX10_rateOf wsX8_worked := goodIn_r _ [6, 7, 8, 9, 10, 11, 5, 12, 13, 14, 15, 16, 17, 18, 19, 20, 37, 38, 39, 40, 41] rfl (by decide +kernel)
set_option maxRecDepth 20000 in
theorem gX10_rateOf_X8_worked : GoodIn wsX10_rateOf (wsV RX10 33 RX8 yX8_worked wsX8_worked) := goodIn_app (goodIn_r _ [2, 3, 4, 5] rfl (by decide +kernel)) ggX10_rateOf_X8_worked
set_option maxRecDepth 20000 in
theorem ggX10_rateOf_X11_bounded : GoodIn wsX10_rateOf wsX11_bounded := goodIn_r _ [23, 24, 25, 26, 27, 28, 29, 30] rfl (by decide +kernel)
set_option maxRecDepth 20000 in
theorem gX10_rateOf_X11_bounded_n37 : GoodIn wsX10_rateOf (wsX11_bounded) := ggX10_rateOf_X11_bounded
theorem dX10_rateOf_0 : decode cX10_rateOf 0 = .ok (.iload_n 1, 1) := by decide +kernel
theorem dX10_rateOf_1 : decode cX10_rateOf 1 = .ok (.iload_n 2, 1) := by decide +kernel
theorem dX10_rateOf_2 : decode cX10_rateOf 2 = .ok (.if_icmp .eq 13, 3) := by decide +kernel
theorem dX10_rateOf_5 : decode cX10_rateOf 5 = .ok (.aload_n 0, 1) := by decide +kernel
theorem dX10_rateOf_6 : decode cX10_rateOf 6 = .ok (.getfield 12, 3) := by decide +kernel
theorem dX10_rateOf_9 : decode cX10_rateOf 9 = .ok (.getfield 25, 3) := by decide +kernel
theorem dX10_rateOf_12 : decode cX10_rateOf 12 = .ok (.ifCond .ne 7, 3) := by decide +kernel
theorem dX10_rateOf_15 : decode cX10_rateOf 15 = .ok (.sipush 1000, 3) := by decide +kernel
theorem dX10_rateOf_18 : decode cX10_rateOf 18 = .ok (.ireturn, 1) := by decide +kernel
theorem dX10_rateOf_19 : decode cX10_rateOf 19 = .ok (.aload_n 0, 1) := by decide +kernel
theorem dX10_rateOf_20 : decode cX10_rateOf 20 = .ok (.getfield 12, 3) := by decide +kernel
theorem dX10_rateOf_23 : decode cX10_rateOf 23 = .ok (.getfield 29, 3) := by decide +kernel
theorem dX10_rateOf_26 : decode cX10_rateOf 26 = .ok (.iconst 0, 1) := by decide +kernel
theorem dX10_rateOf_27 : decode cX10_rateOf 27 = .ok (.iload_n 1, 1) := by decide +kernel
theorem dX10_rateOf_28 : decode cX10_rateOf 28 = .ok (.iastore, 1) := by decide +kernel
theorem dX10_rateOf_29 : decode cX10_rateOf 29 = .ok (.aload_n 0, 1) := by decide +kernel
theorem dX10_rateOf_30 : decode cX10_rateOf 30 = .ok (.getfield 12, 3) := by decide +kernel
theorem dX10_rateOf_33 : decode cX10_rateOf 33 = .ok (.getfield 29, 3) := by decide +kernel
theorem dX10_rateOf_36 : decode cX10_rateOf 36 = .ok (.iconst 1, 1) := by decide +kernel
theorem dX10_rateOf_37 : decode cX10_rateOf 37 = .ok (.iload_n 2, 1) := by decide +kernel
theorem dX10_rateOf_38 : decode cX10_rateOf 38 = .ok (.iastore, 1) := by decide +kernel
theorem dX10_rateOf_39 : decode cX10_rateOf 39 = .ok (.aload_n 0, 1) := by decide +kernel
theorem dX10_rateOf_40 : decode cX10_rateOf 40 = .ok (.getfield 12, 3) := by decide +kernel
theorem dX10_rateOf_43 : decode cX10_rateOf 43 = .ok (.getfield 29, 3) := by decide +kernel
theorem dX10_rateOf_46 : decode cX10_rateOf 46 = .ok (.iconst 2, 1) := by decide +kernel
theorem dX10_rateOf_47 : decode cX10_rateOf 47 = .ok (.iload_n 3, 1) := by decide +kernel
theorem dX10_rateOf_48 : decode cX10_rateOf 48 = .ok (.iastore, 1) := by decide +kernel
theorem dX10_rateOf_49 : decode cX10_rateOf 49 = .ok (.aload_n 0, 1) := by decide +kernel
theorem dX10_rateOf_50 : decode cX10_rateOf 50 = .ok (.getfield 12, 3) := by decide +kernel
theorem dX10_rateOf_53 : decode cX10_rateOf 53 = .ok (.invokevirtual 33, 3) := by decide +kernel
theorem dX10_rateOf_56 : decode cX10_rateOf 56 = .ok (.iconst 1, 1) := by decide +kernel
theorem dX10_rateOf_57 : decode cX10_rateOf 57 = .ok (.sipush 9999, 3) := by decide +kernel
theorem dX10_rateOf_60 : decode cX10_rateOf 60 = .ok (.invokestatic 37, 3) := by decide +kernel
theorem dX10_rateOf_63 : decode cX10_rateOf 63 = .ok (.ireturn, 1) := by decide +kernel
set_option maxRecDepth 20000 in
theorem ggX10_exchanged_X10_rateOf : GoodIn wsX10_exchanged wsX10_rateOf := goodIn_r _ [6, 7, 8, 9, 10, 11, 12, 13, 14, 15, 16, 17, 18, 19, 20, 21, 22, 23, 24, 25, 26, 27, 28, 29, 30, 31, 32, 33, 34, 35, 36, 37, 38, 39, 40, 41, 42, 43, 44, 45, 46, 47] rfl (by decide +kernel)
set_option maxRecDepth 20000 in
theorem gX10_exchanged_X10_rateOf : GoodIn wsX10_exchanged (wsV RX10 41 RX10 yX10_rateOf wsX10_rateOf) := goodIn_app (goodIn_r _ [2, 3, 4, 5] rfl (by decide +kernel)) ggX10_exchanged_X10_rateOf
theorem dX10_exchanged_0 : decode cX10_exchanged 0 = .ok (.iload_n 1, 1) := by decide +kernel
theorem dX10_exchanged_1 : decode cX10_exchanged 1 = .ok (.i2l, 1) := by decide +kernel
theorem dX10_exchanged_2 : decode cX10_exchanged 2 = .ok (.aload_n 0, 1) := by decide +kernel
theorem dX10_exchanged_3 : decode cX10_exchanged 3 = .ok (.iload_n 2, 1) := by decide +kernel
theorem dX10_exchanged_4 : decode cX10_exchanged 4 = .ok (.iload_n 3, 1) := by decide +kernel
theorem dX10_exchanged_5 : decode cX10_exchanged 5 = .ok (.iload 4, 2) := by decide +kernel
theorem dX10_exchanged_7 : decode cX10_exchanged 7 = .ok (.invokevirtual 41, 3) := by decide +kernel
theorem dX10_exchanged_10 : decode cX10_exchanged 10 = .ok (.i2l, 1) := by decide +kernel
theorem dX10_exchanged_11 : decode cX10_exchanged 11 = .ok (.lmul, 1) := by decide +kernel
theorem dX10_exchanged_12 : decode cX10_exchanged 12 = .ok (.ldc2_w 44, 3) := by decide +kernel
theorem dX10_exchanged_15 : decode cX10_exchanged 15 = .ok (.ldiv, 1) := by decide +kernel
theorem dX10_exchanged_16 : decode cX10_exchanged 16 = .ok (.l2i, 1) := by decide +kernel
theorem dX10_exchanged_17 : decode cX10_exchanged 17 = .ok (.ireturn, 1) := by decide +kernel
set_option maxRecDepth 20000 in
theorem ggX10_changed_X10_rateOf : GoodIn wsX10_changed wsX10_rateOf := goodIn_r _ [14, 15, 16, 17, 18, 19, 20, 21, 22, 23, 24, 25, 26, 27, 28, 29, 30, 31, 32, 33, 34, 35, 36, 37, 38, 39, 8, 40, 41, 42, 43, 44, 45, 46, 47, 48, 49, 50, 51, 52, 53, 54] rfl (by decide +kernel)
set_option maxRecDepth 20000 in
theorem gX10_changed_X10_rateOf : GoodIn wsX10_changed (wsV RX10 41 RX10 yX10_rateOf wsX10_rateOf) := goodIn_app (goodIn_r _ [10, 11, 12, 13] rfl (by decide +kernel)) ggX10_changed_X10_rateOf
theorem dX10_changed_0 : decode cX10_changed 0 = .ok (.iload_n 1, 1) := by decide +kernel
theorem dX10_changed_1 : decode cX10_changed 1 = .ok (.i2l, 1) := by decide +kernel
theorem dX10_changed_2 : decode cX10_changed 2 = .ok (.aload_n 0, 1) := by decide +kernel
theorem dX10_changed_3 : decode cX10_changed 3 = .ok (.iload_n 2, 1) := by decide +kernel
theorem dX10_changed_4 : decode cX10_changed 4 = .ok (.iload_n 3, 1) := by decide +kernel
theorem dX10_changed_5 : decode cX10_changed 5 = .ok (.iload 4, 2) := by decide +kernel
theorem dX10_changed_7 : decode cX10_changed 7 = .ok (.invokevirtual 41, 3) := by decide +kernel
theorem dX10_changed_10 : decode cX10_changed 10 = .ok (.i2l, 1) := by decide +kernel
theorem dX10_changed_11 : decode cX10_changed 11 = .ok (.lmul, 1) := by decide +kernel
theorem dX10_changed_12 : decode cX10_changed 12 = .ok (.ldc2_w 44, 3) := by decide +kernel
theorem dX10_changed_15 : decode cX10_changed 15 = .ok (.ldiv, 1) := by decide +kernel
theorem dX10_changed_16 : decode cX10_changed 16 = .ok (.lstore 5, 2) := by decide +kernel
theorem dX10_changed_18 : decode cX10_changed 18 = .ok (.lload 5, 2) := by decide +kernel
theorem dX10_changed_20 : decode cX10_changed 20 = .ok (.aload_n 0, 1) := by decide +kernel
theorem dX10_changed_21 : decode cX10_changed 21 = .ok (.getfield 18, 3) := by decide +kernel
theorem dX10_changed_24 : decode cX10_changed 24 = .ok (.i2l, 1) := by decide +kernel
theorem dX10_changed_25 : decode cX10_changed 25 = .ok (.lmul, 1) := by decide +kernel
theorem dX10_changed_26 : decode cX10_changed 26 = .ok (.ldc2_w 46, 3) := by decide +kernel
theorem dX10_changed_29 : decode cX10_changed 29 = .ok (.ladd, 1) := by decide +kernel
theorem dX10_changed_30 : decode cX10_changed 30 = .ok (.ldc2_w 48, 3) := by decide +kernel
theorem dX10_changed_33 : decode cX10_changed 33 = .ok (.ldiv, 1) := by decide +kernel
theorem dX10_changed_34 : decode cX10_changed 34 = .ok (.lstore 7, 2) := by decide +kernel
theorem dX10_changed_36 : decode cX10_changed 36 = .ok (.lconst 0, 1) := by decide +kernel
theorem dX10_changed_37 : decode cX10_changed 37 = .ok (.lload 5, 2) := by decide +kernel
theorem dX10_changed_39 : decode cX10_changed 39 = .ok (.lload 7, 2) := by decide +kernel
theorem dX10_changed_41 : decode cX10_changed 41 = .ok (.lsub, 1) := by decide +kernel
theorem dX10_changed_42 : decode cX10_changed 42 = .ok (.aload_n 0, 1) := by decide +kernel
theorem dX10_changed_43 : decode cX10_changed 43 = .ok (.getfield 22, 3) := by decide +kernel
theorem dX10_changed_46 : decode cX10_changed 46 = .ok (.i2l, 1) := by decide +kernel
theorem dX10_changed_47 : decode cX10_changed 47 = .ok (.lsub, 1) := by decide +kernel
theorem dX10_changed_48 : decode cX10_changed 48 = .ok (.invokestatic 50, 3) := by decide +kernel
theorem dX10_changed_51 : decode cX10_changed 51 = .ok (.l2i, 1) := by decide +kernel
theorem dX10_changed_52 : decode cX10_changed 52 = .ok (.ireturn, 1) := by decide +kernel
set_option maxRecDepth 20000 in
theorem ggX10_search_X10_goOn : GoodIn wsX10_search wsX10_goOn := goodIn_r _ [8, 9, 1, 10, 11, 12, 7, 13, 2, 3, 14, 15, 16, 17, 18, 19, 20, 21, 22, 23, 24, 25, 26, 27, 28, 29, 30, 31, 32, 33, 34, 35, 36, 37, 38, 39, 40, 41, 42, 43, 44, 45, 46, 47, 48, 49, 50, 51, 52, 53, 54, 55, 56, 57, 58, 59, 4, 5, 6, 60, 61, 62, 63, 64, 65, 66, 67, 68, 69, 70] rfl (by decide +kernel)
set_option maxRecDepth 20000 in
theorem gX10_search_X10_goOn : GoodIn wsX10_search (wsV RX10 65 RX10 yX10_goOn wsX10_goOn) := goodIn_app (goodIn_r _ [4, 5, 6, 7] rfl (by decide +kernel)) ggX10_search_X10_goOn
theorem dX10_search_0 : decode cX10_search 0 = .ok (.aload_n 0, 1) := by decide +kernel
theorem dX10_search_1 : decode cX10_search 1 = .ok (.iload_n 3, 1) := by decide +kernel
theorem dX10_search_2 : decode cX10_search 2 = .ok (.putfield 56, 3) := by decide +kernel
theorem dX10_search_5 : decode cX10_search 5 = .ok (.aload_n 0, 1) := by decide +kernel
theorem dX10_search_6 : decode cX10_search 6 = .ok (.iconst (-1), 1) := by decide +kernel
theorem dX10_search_7 : decode cX10_search 7 = .ok (.putfield 59, 3) := by decide +kernel
theorem dX10_search_10 : decode cX10_search 10 = .ok (.aload_n 0, 1) := by decide +kernel
theorem dX10_search_11 : decode cX10_search 11 = .ok (.iconst 0, 1) := by decide +kernel
theorem dX10_search_12 : decode cX10_search 12 = .ok (.putfield 62, 3) := by decide +kernel
theorem dX10_search_15 : decode cX10_search 15 = .ok (.aload_n 0, 1) := by decide +kernel
theorem dX10_search_16 : decode cX10_search 16 = .ok (.iload_n 1, 1) := by decide +kernel
theorem dX10_search_17 : decode cX10_search 17 = .ok (.iload_n 2, 1) := by decide +kernel
theorem dX10_search_18 : decode cX10_search 18 = .ok (.iload 4, 2) := by decide +kernel
theorem dX10_search_20 : decode cX10_search 20 = .ok (.iload_n 2, 1) := by decide +kernel
theorem dX10_search_21 : decode cX10_search 21 = .ok (.iconst 1, 1) := by decide +kernel
theorem dX10_search_22 : decode cX10_search 22 = .ok (.iadd, 1) := by decide +kernel
theorem dX10_search_23 : decode cX10_search 23 = .ok (.iconst 1, 1) := by decide +kernel
theorem dX10_search_24 : decode cX10_search 24 = .ok (.iload_n 2, 1) := by decide +kernel
theorem dX10_search_25 : decode cX10_search 25 = .ok (.ishl, 1) := by decide +kernel
theorem dX10_search_26 : decode cX10_search 26 = .ok (.invokevirtual 65, 3) := by decide +kernel
theorem dX10_search_29 : decode cX10_search 29 = .ok (.return_, 1) := by decide +kernel
set_option maxRecDepth 20000 in
theorem ggX10_goOn_X10_step : GoodIn wsX10_goOn wsX10_step := goodIn_r _ [7, 2, 8, 9, 10, 11, 12, 6, 13, 14, 15, 16, 17, 18, 19, 20, 21, 22, 23, 24, 25, 26, 27, 28, 29, 30, 31, 32, 33, 34, 35, 36, 37, 38, 39, 40, 41, 42, 43, 44, 45, 46, 47, 48, 49, 50, 51, 52, 53, 54, 55, 56, 57, 58, 0, 1, 3, 4, 5, 59, 60, 61, 62, 63, 64, 65, 66, 67, 68, 69] rfl (by decide +kernel)
set_option maxRecDepth 20000 in
theorem gX10_goOn_X10_step : GoodIn wsX10_goOn (wsV RX10 70 RX10 yX10_step wsX10_step) := goodIn_app (goodIn_r _ [3, 4, 5, 6] rfl (by decide +kernel)) ggX10_goOn_X10_step
theorem dX10_goOn_0 : decode cX10_goOn 0 = .ok (.iload 4, 2) := by decide +kernel
theorem dX10_goOn_2 : decode cX10_goOn 2 = .ok (.ldc 69, 2) := by decide +kernel
theorem dX10_goOn_4 : decode cX10_goOn 4 = .ok (.if_icmp .lt 4, 3) := by decide +kernel
theorem dX10_goOn_7 : decode cX10_goOn 7 = .ok (.return_, 1) := by decide +kernel
theorem dX10_goOn_8 : decode cX10_goOn 8 = .ok (.iconst 0, 1) := by decide +kernel
theorem dX10_goOn_9 : decode cX10_goOn 9 = .ok (.istore 6, 2) := by decide +kernel
theorem dX10_goOn_11 : decode cX10_goOn 11 = .ok (.iload 6, 2) := by decide +kernel
theorem dX10_goOn_13 : decode cX10_goOn 13 = .ok (.iconst 4, 1) := by decide +kernel
theorem dX10_goOn_14 : decode cX10_goOn 14 = .ok (.if_icmp .ge 52, 3) := by decide +kernel
theorem dX10_goOn_17 : decode cX10_goOn 17 = .ok (.iload 6, 2) := by decide +kernel
theorem dX10_goOn_19 : decode cX10_goOn 19 = .ok (.aload_n 0, 1) := by decide +kernel
theorem dX10_goOn_20 : decode cX10_goOn 20 = .ok (.getfield 56, 3) := by decide +kernel
theorem dX10_goOn_23 : decode cX10_goOn 23 = .ok (.if_icmp .ne 14, 3) := by decide +kernel
theorem dX10_goOn_26 : decode cX10_goOn 26 = .ok (.iload_n 2, 1) := by decide +kernel
theorem dX10_goOn_27 : decode cX10_goOn 27 = .ok (.aload_n 0, 1) := by decide +kernel
theorem dX10_goOn_28 : decode cX10_goOn 28 = .ok (.getfield 56, 3) := by decide +kernel
theorem dX10_goOn_31 : decode cX10_goOn 31 = .ok (.if_icmp .eq 29, 3) := by decide +kernel
theorem dX10_goOn_34 : decode cX10_goOn 34 = .ok (.goto 13, 3) := by decide +kernel
theorem dX10_goOn_37 : decode cX10_goOn 37 = .ok (.iload 5, 2) := by decide +kernel
theorem dX10_goOn_39 : decode cX10_goOn 39 = .ok (.iload 6, 2) := by decide +kernel
theorem dX10_goOn_41 : decode cX10_goOn 41 = .ok (.ishr, 1) := by decide +kernel
theorem dX10_goOn_42 : decode cX10_goOn 42 = .ok (.iconst 1, 1) := by decide +kernel
theorem dX10_goOn_43 : decode cX10_goOn 43 = .ok (.iand, 1) := by decide +kernel
theorem dX10_goOn_44 : decode cX10_goOn 44 = .ok (.ifCond .ne 16, 3) := by decide +kernel
theorem dX10_goOn_47 : decode cX10_goOn 47 = .ok (.aload_n 0, 1) := by decide +kernel
theorem dX10_goOn_48 : decode cX10_goOn 48 = .ok (.iload_n 1, 1) := by decide +kernel
theorem dX10_goOn_49 : decode cX10_goOn 49 = .ok (.iload_n 2, 1) := by decide +kernel
theorem dX10_goOn_50 : decode cX10_goOn 50 = .ok (.iload 6, 2) := by decide +kernel
theorem dX10_goOn_52 : decode cX10_goOn 52 = .ok (.iload_n 3, 1) := by decide +kernel
theorem dX10_goOn_53 : decode cX10_goOn 53 = .ok (.iload 4, 2) := by decide +kernel
theorem dX10_goOn_55 : decode cX10_goOn 55 = .ok (.iload 5, 2) := by decide +kernel
theorem dX10_goOn_57 : decode cX10_goOn 57 = .ok (.invokevirtual 70, 3) := by decide +kernel
theorem dX10_goOn_60 : decode cX10_goOn 60 = .ok (.iinc 6 1, 3) := by decide +kernel
theorem dX10_goOn_63 : decode cX10_goOn 63 = .ok (.goto (-52), 3) := by decide +kernel
theorem dX10_goOn_66 : decode cX10_goOn 66 = .ok (.return_, 1) := by decide +kernel
set_option maxRecDepth 20000 in
theorem ggX10_step_X10_changed : GoodIn wsX10_step wsX10_changed := goodIn_r _ [8, 9, 10, 11, 12, 13, 14, 15, 16, 17, 18, 19, 20, 7, 21, 22, 23, 24, 25, 26, 27, 28, 29, 30, 31, 32, 33, 34, 35, 36, 37, 38, 39, 40, 41, 42, 43, 44, 45, 46, 47, 48, 49, 50, 59, 60, 61, 62, 63, 64, 65, 66, 67, 68, 69] rfl (by decide +kernel)
set_option maxRecDepth 20000 in
theorem gX10_step_X10_changed : GoodIn wsX10_step (wsV RX10 74 RX10 yX10_changed wsX10_changed) := goodIn_app (goodIn_r _ [4, 5, 6, 7] rfl (by decide +kernel)) ggX10_step_X10_changed
set_option maxRecDepth 20000 in
theorem ggX10_step_X10_goOn : GoodIn wsX10_step wsX10_goOn := goodIn_r _ [54, 55, 1, 56, 57, 58, 7, 0, 2, 3, 4, 5, 6, 8, 9, 10, 11, 12, 13, 14, 15, 16, 17, 18, 19, 20, 21, 22, 23, 24, 25, 26, 27, 28, 29, 30, 31, 32, 33, 34, 35, 36, 37, 38, 39, 40, 41, 42, 43, 44, 45, 46, 47, 48, 49, 50, 51, 52, 53, 59, 60, 61, 62, 63, 64, 65, 66, 67, 68, 69] rfl (by decide +kernel)
set_option maxRecDepth 20000 in
theorem gX10_step_X10_goOn : GoodIn wsX10_step (wsV RX10 65 RX10 yX10_goOn wsX10_goOn) := goodIn_app (goodIn_r _ [51, 52, 53, 7] rfl (by decide +kernel)) ggX10_step_X10_goOn
theorem dX10_step_0 : decode cX10_step 0 = .ok (.aload_n 0, 1) := by decide +kernel
theorem dX10_step_1 : decode cX10_step 1 = .ok (.iload_n 1, 1) := by decide +kernel
theorem dX10_step_2 : decode cX10_step 2 = .ok (.iload_n 2, 1) := by decide +kernel
theorem dX10_step_3 : decode cX10_step 3 = .ok (.iload_n 3, 1) := by decide +kernel
theorem dX10_step_4 : decode cX10_step 4 = .ok (.iload 4, 2) := by decide +kernel
theorem dX10_step_6 : decode cX10_step 6 = .ok (.invokevirtual 74, 3) := by decide +kernel
theorem dX10_step_9 : decode cX10_step 9 = .ok (.istore 7, 2) := by decide +kernel
theorem dX10_step_11 : decode cX10_step 11 = .ok (.iload 5, 2) := by decide +kernel
theorem dX10_step_13 : decode cX10_step 13 = .ok (.bipush 10, 2) := by decide +kernel
theorem dX10_step_15 : decode cX10_step 15 = .ok (.imul, 1) := by decide +kernel
theorem dX10_step_16 : decode cX10_step 16 = .ok (.iload_n 3, 1) := by decide +kernel
theorem dX10_step_17 : decode cX10_step 17 = .ok (.iadd, 1) := by decide +kernel
theorem dX10_step_18 : decode cX10_step 18 = .ok (.iconst 1, 1) := by decide +kernel
theorem dX10_step_19 : decode cX10_step 19 = .ok (.iadd, 1) := by decide +kernel
theorem dX10_step_20 : decode cX10_step 20 = .ok (.istore 8, 2) := by decide +kernel
theorem dX10_step_22 : decode cX10_step 22 = .ok (.iload_n 3, 1) := by decide +kernel
theorem dX10_step_23 : decode cX10_step 23 = .ok (.aload_n 0, 1) := by decide +kernel
theorem dX10_step_24 : decode cX10_step 24 = .ok (.getfield 56, 3) := by decide +kernel
theorem dX10_step_27 : decode cX10_step 27 = .ok (.if_icmp .eq 25, 3) := by decide +kernel
theorem dX10_step_30 : decode cX10_step 30 = .ok (.aload_n 0, 1) := by decide +kernel
theorem dX10_step_31 : decode cX10_step 31 = .ok (.iload 7, 2) := by decide +kernel
theorem dX10_step_33 : decode cX10_step 33 = .ok (.iload_n 3, 1) := by decide +kernel
theorem dX10_step_34 : decode cX10_step 34 = .ok (.iload 4, 2) := by decide +kernel
theorem dX10_step_36 : decode cX10_step 36 = .ok (.iconst 1, 1) := by decide +kernel
theorem dX10_step_37 : decode cX10_step 37 = .ok (.iadd, 1) := by decide +kernel
theorem dX10_step_38 : decode cX10_step 38 = .ok (.iload 8, 2) := by decide +kernel
theorem dX10_step_40 : decode cX10_step 40 = .ok (.iload 6, 2) := by decide +kernel
theorem dX10_step_42 : decode cX10_step 42 = .ok (.iconst 1, 1) := by decide +kernel
theorem dX10_step_43 : decode cX10_step 43 = .ok (.iload_n 3, 1) := by decide +kernel
theorem dX10_step_44 : decode cX10_step 44 = .ok (.ishl, 1) := by decide +kernel
theorem dX10_step_45 : decode cX10_step 45 = .ok (.ior, 1) := by decide +kernel
theorem dX10_step_46 : decode cX10_step 46 = .ok (.invokevirtual 65, 3) := by decide +kernel
theorem dX10_step_49 : decode cX10_step 49 = .ok (.goto 24, 3) := by decide +kernel
theorem dX10_step_52 : decode cX10_step 52 = .ok (.iload 7, 2) := by decide +kernel
theorem dX10_step_54 : decode cX10_step 54 = .ok (.aload_n 0, 1) := by decide +kernel
theorem dX10_step_55 : decode cX10_step 55 = .ok (.getfield 59, 3) := by decide +kernel
theorem dX10_step_58 : decode cX10_step 58 = .ok (.if_icmp .le 15, 3) := by decide +kernel
theorem dX10_step_61 : decode cX10_step 61 = .ok (.aload_n 0, 1) := by decide +kernel
theorem dX10_step_62 : decode cX10_step 62 = .ok (.iload 7, 2) := by decide +kernel
theorem dX10_step_64 : decode cX10_step 64 = .ok (.putfield 59, 3) := by decide +kernel
theorem dX10_step_67 : decode cX10_step 67 = .ok (.aload_n 0, 1) := by decide +kernel
theorem dX10_step_68 : decode cX10_step 68 = .ok (.iload 8, 2) := by decide +kernel
theorem dX10_step_70 : decode cX10_step 70 = .ok (.putfield 62, 3) := by decide +kernel
theorem dX10_step_73 : decode cX10_step 73 = .ok (.return_, 1) := by decide +kernel
set_option maxRecDepth 20000 in
theorem ggX11_init_X1_init : GoodIn wsX11_init wsX1_init := goodIn_r _ [52, 53, 2, 3, 46, 54, 55, 56, 57, 58, 118, 119, 120, 121, 122, 123] rfl (by decide +kernel)
set_option maxRecDepth 20000 in
theorem gX11_init_X1_init_n11 : GoodIn wsX11_init (wsX1_init) := ggX11_init_X1_init
set_option maxRecDepth 20000 in
theorem ggX11_init_X9_init : GoodIn wsX11_init wsX9_init := goodIn_r _ [60, 61, 2, 3, 46, 62, 63, 64, 65, 137, 138, 139, 140, 141] rfl (by decide +kernel)
set_option maxRecDepth 20000 in
theorem gX11_init_X9_init_n18 : GoodIn wsX11_init (wsX9_init) := ggX11_init_X9_init
set_option maxRecDepth 20000 in
theorem ggX11_init_X5_init : GoodIn wsX11_init wsX5_init := goodIn_r _ [67, 68, 2, 3, 69, 70, 46, 71, 72, 73, 74, 142, 143, 144, 145, 146] rfl (by decide +kernel)
set_option maxRecDepth 20000 in
theorem gX11_init_X5_init_n25 : GoodIn wsX11_init (wsX5_init) := ggX11_init_X5_init
set_option maxRecDepth 20000 in
theorem ggX11_init_X6_init : GoodIn wsX11_init wsX6_init := goodIn_r _ [76, 77, 2, 3, 46, 78, 79, 147, 148, 149, 150, 151, 152] rfl (by decide +kernel)
set_option maxRecDepth 20000 in
theorem gX11_init_X6_init_n32 : GoodIn wsX11_init (wsX6_init) := ggX11_init_X6_init
set_option maxRecDepth 20000 in
theorem ggX11_init_X10_init : GoodIn wsX11_init wsX10_init := goodIn_r _ [81, 82, 2, 3, 83, 25, 26, 84, 85, 86, 87, 46, 88, 89, 90, 159, 160, 161, 162, 163, 153, 154, 155, 156, 157, 158] rfl (by decide +kernel)
set_option maxRecDepth 20000 in
theorem gX11_init_X10_init_n39 : GoodIn wsX11_init (wsX10_init) := ggX11_init_X10_init
set_option maxRecDepth 20000 in
theorem ggX11_init_X8_init : GoodIn wsX11_init wsX8_init := goodIn_r _ [86, 87, 2, 3, 46, 88, 89, 90, 159, 160, 161, 162, 163] rfl (by decide +kernel)
set_option maxRecDepth 20000 in
theorem gX11_init_X8_init_n46 : GoodIn wsX11_init (wsX8_init) := ggX11_init_X8_init
set_option maxRecDepth 20000 in
theorem ggX11_init_X3_init : GoodIn wsX11_init wsX3_init := goodIn_r _ [92, 93, 2, 3, 46, 94, 95, 164, 165, 166] rfl (by decide +kernel)
set_option maxRecDepth 20000 in
theorem gX11_init_X3_init_n53 : GoodIn wsX11_init (wsX3_init) := ggX11_init_X3_init
set_option maxRecDepth 20000 in
theorem ggX11_init_X0_init : GoodIn wsX11_init wsX0_init := goodIn_r _ [97, 98, 2, 3, 46, 99, 100, 101, 102, 167, 168, 169, 170, 171, 172] rfl (by decide +kernel)
set_option maxRecDepth 20000 in
theorem gX11_init_X0_init_n60 : GoodIn wsX11_init (wsX0_init) := ggX11_init_X0_init
set_option maxRecDepth 20000 in
theorem ggX11_init_X4_init : GoodIn wsX11_init wsX4_init := goodIn_r _ [104, 105, 2, 3, 46, 106, 107, 108, 173, 174, 175, 176, 177, 178] rfl (by decide +kernel)
set_option maxRecDepth 20000 in
theorem gX11_init_X4_init_n67 : GoodIn wsX11_init (wsX4_init) := ggX11_init_X4_init
set_option maxRecDepth 20000 in
theorem ggX11_init_X2_init : GoodIn wsX11_init wsX2_init := goodIn_r _ [110, 111, 2, 3, 46, 112, 113, 179, 180, 181, 182, 183] rfl (by decide +kernel)
set_option maxRecDepth 20000 in
theorem gX11_init_X2_init_n74 : GoodIn wsX11_init (wsX2_init) := ggX11_init_X2_init
set_option maxRecDepth 20000 in
theorem ggX11_init_X7_init : GoodIn wsX11_init wsX7_init := goodIn_r _ [115, 116, 2, 3, 69, 117, 184, 185, 186, 187, 188] rfl (by decide +kernel)
set_option maxRecDepth 20000 in
theorem gX11_init_X7_init_n92 : GoodIn wsX11_init (wsX7_init) := ggX11_init_X7_init
theorem dX11_init_0 : decode cX11_init 0 = .ok (.aload_n 0, 1) := by decide +kernel
theorem dX11_init_1 : decode cX11_init 1 = .ok (.invokespecial 3, 3) := by decide +kernel
theorem dX11_init_4 : decode cX11_init 4 = .ok (.aload_n 0, 1) := by decide +kernel
theorem dX11_init_5 : decode cX11_init 5 = .ok (.new 9, 3) := by decide +kernel
theorem dX11_init_8 : decode cX11_init 8 = .ok (.dup, 1) := by decide +kernel
theorem dX11_init_9 : decode cX11_init 9 = .ok (.invokespecial 11, 3) := by decide +kernel
theorem dX11_init_12 : decode cX11_init 12 = .ok (.putfield 12, 3) := by decide +kernel
theorem dX11_init_15 : decode cX11_init 15 = .ok (.aload_n 0, 1) := by decide +kernel
theorem dX11_init_16 : decode cX11_init 16 = .ok (.new 16, 3) := by decide +kernel
theorem dX11_init_19 : decode cX11_init 19 = .ok (.dup, 1) := by decide +kernel
theorem dX11_init_20 : decode cX11_init 20 = .ok (.invokespecial 18, 3) := by decide +kernel
theorem dX11_init_23 : decode cX11_init 23 = .ok (.putfield 19, 3) := by decide +kernel
theorem dX11_init_26 : decode cX11_init 26 = .ok (.aload_n 0, 1) := by decide +kernel
theorem dX11_init_27 : decode cX11_init 27 = .ok (.new 23, 3) := by decide +kernel
theorem dX11_init_30 : decode cX11_init 30 = .ok (.dup, 1) := by decide +kernel
theorem dX11_init_31 : decode cX11_init 31 = .ok (.invokespecial 25, 3) := by decide +kernel
theorem dX11_init_34 : decode cX11_init 34 = .ok (.putfield 26, 3) := by decide +kernel
theorem dX11_init_37 : decode cX11_init 37 = .ok (.aload_n 0, 1) := by decide +kernel
theorem dX11_init_38 : decode cX11_init 38 = .ok (.new 30, 3) := by decide +kernel
theorem dX11_init_41 : decode cX11_init 41 = .ok (.dup, 1) := by decide +kernel
theorem dX11_init_42 : decode cX11_init 42 = .ok (.invokespecial 32, 3) := by decide +kernel
theorem dX11_init_45 : decode cX11_init 45 = .ok (.putfield 33, 3) := by decide +kernel
theorem dX11_init_48 : decode cX11_init 48 = .ok (.aload_n 0, 1) := by decide +kernel
theorem dX11_init_49 : decode cX11_init 49 = .ok (.new 37, 3) := by decide +kernel
theorem dX11_init_52 : decode cX11_init 52 = .ok (.dup, 1) := by decide +kernel
theorem dX11_init_53 : decode cX11_init 53 = .ok (.invokespecial 39, 3) := by decide +kernel
theorem dX11_init_56 : decode cX11_init 56 = .ok (.putfield 40, 3) := by decide +kernel
theorem dX11_init_59 : decode cX11_init 59 = .ok (.aload_n 0, 1) := by decide +kernel
theorem dX11_init_60 : decode cX11_init 60 = .ok (.new 44, 3) := by decide +kernel
theorem dX11_init_63 : decode cX11_init 63 = .ok (.dup, 1) := by decide +kernel
theorem dX11_init_64 : decode cX11_init 64 = .ok (.invokespecial 46, 3) := by decide +kernel
theorem dX11_init_67 : decode cX11_init 67 = .ok (.putfield 47, 3) := by decide +kernel
theorem dX11_init_70 : decode cX11_init 70 = .ok (.aload_n 0, 1) := by decide +kernel
theorem dX11_init_71 : decode cX11_init 71 = .ok (.new 51, 3) := by decide +kernel
theorem dX11_init_74 : decode cX11_init 74 = .ok (.dup, 1) := by decide +kernel
theorem dX11_init_75 : decode cX11_init 75 = .ok (.invokespecial 53, 3) := by decide +kernel
theorem dX11_init_78 : decode cX11_init 78 = .ok (.putfield 54, 3) := by decide +kernel
theorem dX11_init_81 : decode cX11_init 81 = .ok (.aload_n 0, 1) := by decide +kernel
theorem dX11_init_82 : decode cX11_init 82 = .ok (.new 58, 3) := by decide +kernel
theorem dX11_init_85 : decode cX11_init 85 = .ok (.dup, 1) := by decide +kernel
theorem dX11_init_86 : decode cX11_init 86 = .ok (.invokespecial 60, 3) := by decide +kernel
theorem dX11_init_89 : decode cX11_init 89 = .ok (.putfield 61, 3) := by decide +kernel
theorem dX11_init_92 : decode cX11_init 92 = .ok (.aload_n 0, 1) := by decide +kernel
theorem dX11_init_93 : decode cX11_init 93 = .ok (.new 65, 3) := by decide +kernel
theorem dX11_init_96 : decode cX11_init 96 = .ok (.dup, 1) := by decide +kernel
theorem dX11_init_97 : decode cX11_init 97 = .ok (.invokespecial 67, 3) := by decide +kernel
theorem dX11_init_100 : decode cX11_init 100 = .ok (.putfield 68, 3) := by decide +kernel
theorem dX11_init_103 : decode cX11_init 103 = .ok (.aload_n 0, 1) := by decide +kernel
theorem dX11_init_104 : decode cX11_init 104 = .ok (.new 72, 3) := by decide +kernel
theorem dX11_init_107 : decode cX11_init 107 = .ok (.dup, 1) := by decide +kernel
theorem dX11_init_108 : decode cX11_init 108 = .ok (.invokespecial 74, 3) := by decide +kernel
theorem dX11_init_111 : decode cX11_init 111 = .ok (.putfield 75, 3) := by decide +kernel
theorem dX11_init_114 : decode cX11_init 114 = .ok (.aload_n 0, 1) := by decide +kernel
theorem dX11_init_115 : decode cX11_init 115 = .ok (.bipush 6, 2) := by decide +kernel
theorem dX11_init_117 : decode cX11_init 117 = .ok (.anewarray 79, 3) := by decide +kernel
theorem dX11_init_120 : decode cX11_init 120 = .ok (.putfield 81, 3) := by decide +kernel
theorem dX11_init_123 : decode cX11_init 123 = .ok (.aload_n 0, 1) := by decide +kernel
theorem dX11_init_124 : decode cX11_init 124 = .ok (.iconst 4, 1) := by decide +kernel
theorem dX11_init_125 : decode cX11_init 125 = .ok (.newarray .int, 2) := by decide +kernel
theorem dX11_init_127 : decode cX11_init 127 = .ok (.putfield 85, 3) := by decide +kernel
theorem dX11_init_130 : decode cX11_init 130 = .ok (.aload_n 0, 1) := by decide +kernel
theorem dX11_init_131 : decode cX11_init 131 = .ok (.iconst 3, 1) := by decide +kernel
theorem dX11_init_132 : decode cX11_init 132 = .ok (.newarray .int, 2) := by decide +kernel
theorem dX11_init_134 : decode cX11_init 134 = .ok (.putfield 89, 3) := by decide +kernel
theorem dX11_init_137 : decode cX11_init 137 = .ok (.iconst 0, 1) := by decide +kernel
theorem dX11_init_138 : decode cX11_init 138 = .ok (.istore_n 1, 1) := by decide +kernel
theorem dX11_init_139 : decode cX11_init 139 = .ok (.iload_n 1, 1) := by decide +kernel
theorem dX11_init_140 : decode cX11_init 140 = .ok (.bipush 6, 2) := by decide +kernel
theorem dX11_init_142 : decode cX11_init 142 = .ok (.if_icmp .ge 22, 3) := by decide +kernel
theorem dX11_init_145 : decode cX11_init 145 = .ok (.aload_n 0, 1) := by decide +kernel
theorem dX11_init_146 : decode cX11_init 146 = .ok (.getfield 81, 3) := by decide +kernel
theorem dX11_init_149 : decode cX11_init 149 = .ok (.iload_n 1, 1) := by decide +kernel
theorem dX11_init_150 : decode cX11_init 150 = .ok (.new 79, 3) := by decide +kernel
theorem dX11_init_153 : decode cX11_init 153 = .ok (.dup, 1) := by decide +kernel
theorem dX11_init_154 : decode cX11_init 154 = .ok (.invokespecial 92, 3) := by decide +kernel
theorem dX11_init_157 : decode cX11_init 157 = .ok (.aastore, 1) := by decide +kernel
theorem dX11_init_158 : decode cX11_init 158 = .ok (.iinc 1 1, 3) := by decide +kernel
theorem dX11_init_161 : decode cX11_init 161 = .ok (.goto (-22), 3) := by decide +kernel
theorem dX11_init_164 : decode cX11_init 164 = .ok (.return_, 1) := by decide +kernel
set_option maxRecDepth 20000 in
theorem ggX11_sort_X1_fits : GoodIn wsX11_sort wsX1_fits := goodIn_r _ [5, 6, 7, 8, 9, 10, 11] rfl (by decide +kernel)
set_option maxRecDepth 20000 in
theorem gX11_sort_X1_fits : GoodIn wsX11_sort (va_wsS RX11 93 yX1_fits wsX1_fits) := goodIn_app (goodIn_r _ [2, 3, 4] rfl (by decide +kernel)) ggX11_sort_X1_fits
set_option maxRecDepth 20000 in
theorem ggX11_sort_X1_add : GoodIn wsX11_sort wsX1_add := goodIn_r _ [15, 16, 17, 18, 19, 20, 21, 35, 36, 37, 38, 39, 40] rfl (by decide +kernel)
set_option maxRecDepth 20000 in
theorem gX11_sort_X1_add : GoodIn wsX11_sort (wsV RX11 97 RX1 yX1_add wsX1_add) := goodIn_app (goodIn_r _ [12, 13, 14, 4] rfl (by decide +kernel)) ggX11_sort_X1_add
theorem dX11_sort_0 : decode cX11_sort 0 = .ok (.iload_n 1, 1) := by decide +kernel
theorem dX11_sort_1 : decode cX11_sort 1 = .ok (.ifCond .lt 29, 3) := by decide +kernel
theorem dX11_sort_4 : decode cX11_sort 4 = .ok (.iload_n 2, 1) := by decide +kernel
theorem dX11_sort_5 : decode cX11_sort 5 = .ok (.ifCond .lt 25, 3) := by decide +kernel
theorem dX11_sort_8 : decode cX11_sort 8 = .ok (.iload_n 1, 1) := by decide +kernel
theorem dX11_sort_9 : decode cX11_sort 9 = .ok (.bipush 100, 2) := by decide +kernel
theorem dX11_sort_11 : decode cX11_sort 11 = .ok (.idiv, 1) := by decide +kernel
theorem dX11_sort_12 : decode cX11_sort 12 = .ok (.iload_n 1, 1) := by decide +kernel
theorem dX11_sort_13 : decode cX11_sort 13 = .ok (.bipush 100, 2) := by decide +kernel
theorem dX11_sort_15 : decode cX11_sort 15 = .ok (.irem, 1) := by decide +kernel
theorem dX11_sort_16 : decode cX11_sort 16 = .ok (.iload_n 2, 1) := by decide +kernel
theorem dX11_sort_17 : decode cX11_sort 17 = .ok (.bipush 100, 2) := by decide +kernel
theorem dX11_sort_19 : decode cX11_sort 19 = .ok (.idiv, 1) := by decide +kernel
theorem dX11_sort_20 : decode cX11_sort 20 = .ok (.iload_n 2, 1) := by decide +kernel
theorem dX11_sort_21 : decode cX11_sort 21 = .ok (.bipush 100, 2) := by decide +kernel
theorem dX11_sort_23 : decode cX11_sort 23 = .ok (.irem, 1) := by decide +kernel
theorem dX11_sort_24 : decode cX11_sort 24 = .ok (.invokestatic 93, 3) := by decide +kernel
theorem dX11_sort_27 : decode cX11_sort 27 = .ok (.ifCond .ne 5, 3) := by decide +kernel
theorem dX11_sort_30 : decode cX11_sort 30 = .ok (.iconst (-1), 1) := by decide +kernel
theorem dX11_sort_31 : decode cX11_sort 31 = .ok (.ireturn, 1) := by decide +kernel
theorem dX11_sort_32 : decode cX11_sort 32 = .ok (.aload_n 0, 1) := by decide +kernel
theorem dX11_sort_33 : decode cX11_sort 33 = .ok (.getfield 12, 3) := by decide +kernel
theorem dX11_sort_36 : decode cX11_sort 36 = .ok (.iload_n 1, 1) := by decide +kernel
theorem dX11_sort_37 : decode cX11_sort 37 = .ok (.bipush 100, 2) := by decide +kernel
theorem dX11_sort_39 : decode cX11_sort 39 = .ok (.idiv, 1) := by decide +kernel
theorem dX11_sort_40 : decode cX11_sort 40 = .ok (.iload_n 1, 1) := by decide +kernel
theorem dX11_sort_41 : decode cX11_sort 41 = .ok (.bipush 100, 2) := by decide +kernel
theorem dX11_sort_43 : decode cX11_sort 43 = .ok (.irem, 1) := by decide +kernel
theorem dX11_sort_44 : decode cX11_sort 44 = .ok (.iload_n 2, 1) := by decide +kernel
theorem dX11_sort_45 : decode cX11_sort 45 = .ok (.bipush 100, 2) := by decide +kernel
theorem dX11_sort_47 : decode cX11_sort 47 = .ok (.idiv, 1) := by decide +kernel
theorem dX11_sort_48 : decode cX11_sort 48 = .ok (.iload_n 2, 1) := by decide +kernel
theorem dX11_sort_49 : decode cX11_sort 49 = .ok (.bipush 100, 2) := by decide +kernel
theorem dX11_sort_51 : decode cX11_sort 51 = .ok (.irem, 1) := by decide +kernel
theorem dX11_sort_52 : decode cX11_sort 52 = .ok (.invokevirtual 97, 3) := by decide +kernel
theorem dX11_sort_55 : decode cX11_sort 55 = .ok (.ifCond .eq 15, 3) := by decide +kernel
theorem dX11_sort_58 : decode cX11_sort 58 = .ok (.aload_n 0, 1) := by decide +kernel
theorem dX11_sort_59 : decode cX11_sort 59 = .ok (.getfield 12, 3) := by decide +kernel
theorem dX11_sort_62 : decode cX11_sort 62 = .ok (.getfield 100, 3) := by decide +kernel
theorem dX11_sort_65 : decode cX11_sort 65 = .ok (.iconst 1, 1) := by decide +kernel
theorem dX11_sort_66 : decode cX11_sort 66 = .ok (.isub, 1) := by decide +kernel
theorem dX11_sort_67 : decode cX11_sort 67 = .ok (.goto 5, 3) := by decide +kernel
theorem dX11_sort_70 : decode cX11_sort 70 = .ok (.bipush (-3), 2) := by decide +kernel
theorem dX11_sort_72 : decode cX11_sort 72 = .ok (.ireturn, 1) := by decide +kernel
set_option maxRecDepth 20000 in
theorem ggX11_sorts_X11_isShelf : GoodIn wsX11_sorts wsX11_isShelf := goodIn_r _ [5, 6, 7, 4, 8] rfl (by decide +kernel)
set_option maxRecDepth 20000 in
theorem gX11_sorts_X11_isShelf : GoodIn wsX11_sorts (va_wsS RX11 104 yX11_isShelf wsX11_isShelf) := goodIn_app (goodIn_r _ [2, 3, 4] rfl (by decide +kernel)) ggX11_sorts_X11_isShelf
set_option maxRecDepth 20000 in
theorem ggX11_sorts_X11_within : GoodIn wsX11_sorts wsX11_within := goodIn_r _ [8] rfl (by decide +kernel)
set_option maxRecDepth 20000 in
theorem gX11_sorts_X11_within : GoodIn wsX11_sorts (va_wsS RX11 108 yX11_within wsX11_within) := goodIn_app (goodIn_r _ [6, 7, 4] rfl (by decide +kernel)) ggX11_sorts_X11_within
set_option maxRecDepth 20000 in
theorem ggX11_sorts_X11_addFromRow : GoodIn wsX11_sorts wsX11_addFromRow := goodIn_r _ [12, 13, 14, 15, 16, 17, 18, 19, 20, 21, 22, 23, 24, 4, 25, 6, 7, 8, 26, 27, 28, 29, 30, 31, 32, 33, 34, 35, 49, 50, 51, 52, 53, 36, 37, 38, 39, 40, 41, 42, 43, 44, 45, 46, 47, 48, 54, 55, 56, 57, 58, 59] rfl (by decide +kernel)
set_option maxRecDepth 20000 in
theorem gX11_sorts_X11_addFromRow : GoodIn wsX11_sorts (wsV RX11 118 RX11 yX11_addFromRow wsX11_addFromRow) := goodIn_app (goodIn_r _ [9, 10, 11, 4] rfl (by decide +kernel)) ggX11_sorts_X11_addFromRow
theorem dX11_sorts_0 : decode cX11_sorts 0 = .ok (.iload_n 1, 1) := by decide +kernel
theorem dX11_sorts_1 : decode cX11_sorts 1 = .ok (.invokestatic 104, 3) := by decide +kernel
theorem dX11_sorts_4 : decode cX11_sorts 4 = .ok (.ifCond .eq 13, 3) := by decide +kernel
theorem dX11_sorts_7 : decode cX11_sorts 7 = .ok (.iload_n 3, 1) := by decide +kernel
theorem dX11_sorts_8 : decode cX11_sorts 8 = .ok (.iconst 1, 1) := by decide +kernel
theorem dX11_sorts_9 : decode cX11_sorts 9 = .ok (.bipush 8, 2) := by decide +kernel
theorem dX11_sorts_11 : decode cX11_sorts 11 = .ok (.invokestatic 108, 3) := by decide +kernel
theorem dX11_sorts_14 : decode cX11_sorts 14 = .ok (.ifCond .ne 5, 3) := by decide +kernel
theorem dX11_sorts_17 : decode cX11_sorts 17 = .ok (.iconst (-1), 1) := by decide +kernel
theorem dX11_sorts_18 : decode cX11_sorts 18 = .ok (.ireturn, 1) := by decide +kernel
theorem dX11_sorts_19 : decode cX11_sorts 19 = .ok (.aload_n 0, 1) := by decide +kernel
theorem dX11_sorts_20 : decode cX11_sorts 20 = .ok (.getfield 81, 3) := by decide +kernel
theorem dX11_sorts_23 : decode cX11_sorts 23 = .ok (.iload_n 1, 1) := by decide +kernel
theorem dX11_sorts_24 : decode cX11_sorts 24 = .ok (.aaload, 1) := by decide +kernel
theorem dX11_sorts_25 : decode cX11_sorts 25 = .ok (.astore 4, 2) := by decide +kernel
theorem dX11_sorts_27 : decode cX11_sorts 27 = .ok (.aload 4, 2) := by decide +kernel
theorem dX11_sorts_29 : decode cX11_sorts 29 = .ok (.getfield 112, 3) := by decide +kernel
theorem dX11_sorts_32 : decode cX11_sorts 32 = .ok (.ifCond .ne 5, 3) := by decide +kernel
theorem dX11_sorts_35 : decode cX11_sorts 35 = .ok (.iconst 0, 1) := by decide +kernel
theorem dX11_sorts_36 : decode cX11_sorts 36 = .ok (.ireturn, 1) := by decide +kernel
theorem dX11_sorts_37 : decode cX11_sorts 37 = .ok (.aload 4, 2) := by decide +kernel
theorem dX11_sorts_39 : decode cX11_sorts 39 = .ok (.getfield 112, 3) := by decide +kernel
theorem dX11_sorts_42 : decode cX11_sorts 42 = .ok (.iconst 2, 1) := by decide +kernel
theorem dX11_sorts_43 : decode cX11_sorts 43 = .ok (.if_icmp .ne 11, 3) := by decide +kernel
theorem dX11_sorts_46 : decode cX11_sorts 46 = .ok (.aload 4, 2) := by decide +kernel
theorem dX11_sorts_48 : decode cX11_sorts 48 = .ok (.getfield 115, 3) := by decide +kernel
theorem dX11_sorts_51 : decode cX11_sorts 51 = .ok (.ifCond .eq 6, 3) := by decide +kernel
theorem dX11_sorts_54 : decode cX11_sorts 54 = .ok (.bipush (-12), 2) := by decide +kernel
theorem dX11_sorts_56 : decode cX11_sorts 56 = .ok (.ireturn, 1) := by decide +kernel
theorem dX11_sorts_57 : decode cX11_sorts 57 = .ok (.iconst 0, 1) := by decide +kernel
theorem dX11_sorts_58 : decode cX11_sorts 58 = .ok (.istore 5, 2) := by decide +kernel
theorem dX11_sorts_60 : decode cX11_sorts 60 = .ok (.iload 5, 2) := by decide +kernel
theorem dX11_sorts_62 : decode cX11_sorts 62 = .ok (.iload_n 3, 1) := by decide +kernel
theorem dX11_sorts_63 : decode cX11_sorts 63 = .ok (.if_icmp .ge 21, 3) := by decide +kernel
theorem dX11_sorts_66 : decode cX11_sorts 66 = .ok (.aload_n 0, 1) := by decide +kernel
theorem dX11_sorts_67 : decode cX11_sorts 67 = .ok (.aload 4, 2) := by decide +kernel
theorem dX11_sorts_69 : decode cX11_sorts 69 = .ok (.iload_n 2, 1) := by decide +kernel
theorem dX11_sorts_70 : decode cX11_sorts 70 = .ok (.iload 5, 2) := by decide +kernel
theorem dX11_sorts_72 : decode cX11_sorts 72 = .ok (.invokevirtual 118, 3) := by decide +kernel
theorem dX11_sorts_75 : decode cX11_sorts 75 = .ok (.ifCond .eq 9, 3) := by decide +kernel
theorem dX11_sorts_78 : decode cX11_sorts 78 = .ok (.iinc 5 1, 3) := by decide +kernel
theorem dX11_sorts_81 : decode cX11_sorts 81 = .ok (.goto (-21), 3) := by decide +kernel
theorem dX11_sorts_84 : decode cX11_sorts 84 = .ok (.iload 5, 2) := by decide +kernel
theorem dX11_sorts_86 : decode cX11_sorts 86 = .ok (.ireturn, 1) := by decide +kernel
set_option maxRecDepth 20000 in
theorem ggX11_purse_X1_knows : GoodIn wsX11_purse wsX1_knows := goodIn_r _ [6, 7, 25, 26, 27, 28, 29, 30] rfl (by decide +kernel)
set_option maxRecDepth 20000 in
theorem gX11_purse_X1_knows : GoodIn wsX11_purse (wsV RX11 122 RX1 yX1_knows wsX1_knows) := goodIn_app (goodIn_r _ [2, 3, 4, 5] rfl (by decide +kernel)) ggX11_purse_X1_knows
set_option maxRecDepth 20000 in
theorem ggX11_purse_X11_within : GoodIn wsX11_purse wsX11_within := goodIn_r _ [11] rfl (by decide +kernel)
set_option maxRecDepth 20000 in
theorem gX11_purse_X11_within : GoodIn wsX11_purse (va_wsS RX11 108 yX11_within wsX11_within) := goodIn_app (goodIn_r _ [8, 9, 10] rfl (by decide +kernel)) ggX11_purse_X11_within
theorem dX11_purse_0 : decode cX11_purse 0 = .ok (.aload_n 0, 1) := by decide +kernel
theorem dX11_purse_1 : decode cX11_purse 1 = .ok (.getfield 12, 3) := by decide +kernel
theorem dX11_purse_4 : decode cX11_purse 4 = .ok (.iload_n 1, 1) := by decide +kernel
theorem dX11_purse_5 : decode cX11_purse 5 = .ok (.invokevirtual 122, 3) := by decide +kernel
theorem dX11_purse_8 : decode cX11_purse 8 = .ok (.ifCond .eq 13, 3) := by decide +kernel
theorem dX11_purse_11 : decode cX11_purse 11 = .ok (.iload_n 2, 1) := by decide +kernel
theorem dX11_purse_12 : decode cX11_purse 12 = .ok (.iconst 0, 1) := by decide +kernel
theorem dX11_purse_13 : decode cX11_purse 13 = .ok (.bipush 6, 2) := by decide +kernel
theorem dX11_purse_15 : decode cX11_purse 15 = .ok (.invokestatic 108, 3) := by decide +kernel
theorem dX11_purse_18 : decode cX11_purse 18 = .ok (.ifCond .ne 5, 3) := by decide +kernel
theorem dX11_purse_21 : decode cX11_purse 21 = .ok (.iconst (-1), 1) := by decide +kernel
theorem dX11_purse_22 : decode cX11_purse 22 = .ok (.ireturn, 1) := by decide +kernel
theorem dX11_purse_23 : decode cX11_purse 23 = .ok (.aload_n 0, 1) := by decide +kernel
theorem dX11_purse_24 : decode cX11_purse 24 = .ok (.getfield 12, 3) := by decide +kernel
theorem dX11_purse_27 : decode cX11_purse 27 = .ok (.getfield 125, 3) := by decide +kernel
theorem dX11_purse_30 : decode cX11_purse 30 = .ok (.iload_n 1, 1) := by decide +kernel
theorem dX11_purse_31 : decode cX11_purse 31 = .ok (.iaload, 1) := by decide +kernel
theorem dX11_purse_32 : decode cX11_purse 32 = .ok (.istore_n 3, 1) := by decide +kernel
theorem dX11_purse_33 : decode cX11_purse 33 = .ok (.aload_n 0, 1) := by decide +kernel
theorem dX11_purse_34 : decode cX11_purse 34 = .ok (.getfield 12, 3) := by decide +kernel
theorem dX11_purse_37 : decode cX11_purse 37 = .ok (.getfield 125, 3) := by decide +kernel
theorem dX11_purse_40 : decode cX11_purse 40 = .ok (.iload_n 1, 1) := by decide +kernel
theorem dX11_purse_41 : decode cX11_purse 41 = .ok (.iload_n 2, 1) := by decide +kernel
theorem dX11_purse_42 : decode cX11_purse 42 = .ok (.iastore, 1) := by decide +kernel
theorem dX11_purse_43 : decode cX11_purse 43 = .ok (.iload_n 3, 1) := by decide +kernel
theorem dX11_purse_44 : decode cX11_purse 44 = .ok (.ireturn, 1) := by decide +kernel
set_option maxRecDepth 20000 in
theorem ggX11_thing_X9_fits : GoodIn wsX11_thing wsX9_fits := goodIn_r _ [5, 6, 7, 8, 9, 10, 11] rfl (by decide +kernel)
set_option maxRecDepth 20000 in
theorem gX11_thing_X9_fits : GoodIn wsX11_thing (va_wsS RX11 128 yX9_fits wsX9_fits) := goodIn_app (goodIn_r _ [2, 3, 4] rfl (by decide +kernel)) ggX11_thing_X9_fits
set_option maxRecDepth 20000 in
theorem ggX11_thing_X9_add : GoodIn wsX11_thing wsX9_add := goodIn_r _ [15, 16, 17, 18, 19, 20, 21, 7, 22, 23, 24, 25, 26, 27, 28, 29, 43, 44, 45, 46, 47] rfl (by decide +kernel)
set_option maxRecDepth 20000 in
theorem gX11_thing_X9_add : GoodIn wsX11_thing (wsV RX11 130 RX9 yX9_add wsX9_add) := goodIn_app (goodIn_r _ [12, 13, 14, 4] rfl (by decide +kernel)) ggX11_thing_X9_add
theorem dX11_thing_0 : decode cX11_thing 0 = .ok (.iload_n 1, 1) := by decide +kernel
theorem dX11_thing_1 : decode cX11_thing 1 = .ok (.ifCond .lt 27, 3) := by decide +kernel
theorem dX11_thing_4 : decode cX11_thing 4 = .ok (.iload_n 2, 1) := by decide +kernel
theorem dX11_thing_5 : decode cX11_thing 5 = .ok (.ifCond .lt 23, 3) := by decide +kernel
theorem dX11_thing_8 : decode cX11_thing 8 = .ok (.iload_n 1, 1) := by decide +kernel
theorem dX11_thing_9 : decode cX11_thing 9 = .ok (.sipush 1000, 3) := by decide +kernel
theorem dX11_thing_12 : decode cX11_thing 12 = .ok (.idiv, 1) := by decide +kernel
theorem dX11_thing_13 : decode cX11_thing 13 = .ok (.iload_n 1, 1) := by decide +kernel
theorem dX11_thing_14 : decode cX11_thing 14 = .ok (.sipush 1000, 3) := by decide +kernel
theorem dX11_thing_17 : decode cX11_thing 17 = .ok (.irem, 1) := by decide +kernel
theorem dX11_thing_18 : decode cX11_thing 18 = .ok (.iload_n 2, 1) := by decide +kernel
theorem dX11_thing_19 : decode cX11_thing 19 = .ok (.bipush 10, 2) := by decide +kernel
theorem dX11_thing_21 : decode cX11_thing 21 = .ok (.idiv, 1) := by decide +kernel
theorem dX11_thing_22 : decode cX11_thing 22 = .ok (.invokestatic 128, 3) := by decide +kernel
theorem dX11_thing_25 : decode cX11_thing 25 = .ok (.ifCond .ne 5, 3) := by decide +kernel
theorem dX11_thing_28 : decode cX11_thing 28 = .ok (.iconst (-1), 1) := by decide +kernel
theorem dX11_thing_29 : decode cX11_thing 29 = .ok (.ireturn, 1) := by decide +kernel
theorem dX11_thing_30 : decode cX11_thing 30 = .ok (.aload_n 0, 1) := by decide +kernel
theorem dX11_thing_31 : decode cX11_thing 31 = .ok (.getfield 19, 3) := by decide +kernel
theorem dX11_thing_34 : decode cX11_thing 34 = .ok (.iload_n 1, 1) := by decide +kernel
theorem dX11_thing_35 : decode cX11_thing 35 = .ok (.sipush 1000, 3) := by decide +kernel
theorem dX11_thing_38 : decode cX11_thing 38 = .ok (.idiv, 1) := by decide +kernel
theorem dX11_thing_39 : decode cX11_thing 39 = .ok (.iload_n 1, 1) := by decide +kernel
theorem dX11_thing_40 : decode cX11_thing 40 = .ok (.sipush 1000, 3) := by decide +kernel
theorem dX11_thing_43 : decode cX11_thing 43 = .ok (.irem, 1) := by decide +kernel
theorem dX11_thing_44 : decode cX11_thing 44 = .ok (.iload_n 2, 1) := by decide +kernel
theorem dX11_thing_45 : decode cX11_thing 45 = .ok (.bipush 10, 2) := by decide +kernel
theorem dX11_thing_47 : decode cX11_thing 47 = .ok (.idiv, 1) := by decide +kernel
theorem dX11_thing_48 : decode cX11_thing 48 = .ok (.iload_n 2, 1) := by decide +kernel
theorem dX11_thing_49 : decode cX11_thing 49 = .ok (.bipush 10, 2) := by decide +kernel
theorem dX11_thing_51 : decode cX11_thing 51 = .ok (.irem, 1) := by decide +kernel
theorem dX11_thing_52 : decode cX11_thing 52 = .ok (.invokevirtual 130, 3) := by decide +kernel
theorem dX11_thing_55 : decode cX11_thing 55 = .ok (.ifCond .eq 15, 3) := by decide +kernel
theorem dX11_thing_58 : decode cX11_thing 58 = .ok (.aload_n 0, 1) := by decide +kernel
theorem dX11_thing_59 : decode cX11_thing 59 = .ok (.getfield 19, 3) := by decide +kernel
theorem dX11_thing_62 : decode cX11_thing 62 = .ok (.getfield 131, 3) := by decide +kernel
theorem dX11_thing_65 : decode cX11_thing 65 = .ok (.iconst 1, 1) := by decide +kernel
theorem dX11_thing_66 : decode cX11_thing 66 = .ok (.isub, 1) := by decide +kernel
theorem dX11_thing_67 : decode cX11_thing 67 = .ok (.goto 5, 3) := by decide +kernel
theorem dX11_thing_70 : decode cX11_thing 70 = .ok (.bipush (-3), 2) := by decide +kernel
theorem dX11_thing_72 : decode cX11_thing 72 = .ok (.ireturn, 1) := by decide +kernel
set_option maxRecDepth 20000 in
theorem ggX11_rule_X11_isLand : GoodIn wsX11_rule wsX11_isLand := goodIn_r _ [5, 6, 7, 4, 8] rfl (by decide +kernel)
set_option maxRecDepth 20000 in
theorem gX11_rule_X11_isLand : GoodIn wsX11_rule (va_wsS RX11 132 yX11_isLand wsX11_isLand) := goodIn_app (goodIn_r _ [2, 3, 4] rfl (by decide +kernel)) ggX11_rule_X11_isLand
set_option maxRecDepth 20000 in
theorem ggX11_rule_X11_within : GoodIn wsX11_rule wsX11_within := goodIn_r _ [8] rfl (by decide +kernel)
set_option maxRecDepth 20000 in
theorem gX11_rule_X11_within : GoodIn wsX11_rule (va_wsS RX11 108 yX11_within wsX11_within) := goodIn_app (goodIn_r _ [6, 7, 4] rfl (by decide +kernel)) ggX11_rule_X11_within
theorem dX11_rule_0 : decode cX11_rule 0 = .ok (.iload_n 1, 1) := by decide +kernel
theorem dX11_rule_1 : decode cX11_rule 1 = .ok (.invokestatic 132, 3) := by decide +kernel
theorem dX11_rule_4 : decode cX11_rule 4 = .ok (.ifCond .eq 12, 3) := by decide +kernel
theorem dX11_rule_7 : decode cX11_rule 7 = .ok (.iload_n 2, 1) := by decide +kernel
theorem dX11_rule_8 : decode cX11_rule 8 = .ok (.iconst 0, 1) := by decide +kernel
theorem dX11_rule_9 : decode cX11_rule 9 = .ok (.iconst 2, 1) := by decide +kernel
theorem dX11_rule_10 : decode cX11_rule 10 = .ok (.invokestatic 108, 3) := by decide +kernel
theorem dX11_rule_13 : decode cX11_rule 13 = .ok (.ifCond .ne 5, 3) := by decide +kernel
theorem dX11_rule_16 : decode cX11_rule 16 = .ok (.iconst (-1), 1) := by decide +kernel
theorem dX11_rule_17 : decode cX11_rule 17 = .ok (.ireturn, 1) := by decide +kernel
theorem dX11_rule_18 : decode cX11_rule 18 = .ok (.aload_n 0, 1) := by decide +kernel
theorem dX11_rule_19 : decode cX11_rule 19 = .ok (.getfield 85, 3) := by decide +kernel
theorem dX11_rule_22 : decode cX11_rule 22 = .ok (.iload_n 1, 1) := by decide +kernel
theorem dX11_rule_23 : decode cX11_rule 23 = .ok (.iaload, 1) := by decide +kernel
theorem dX11_rule_24 : decode cX11_rule 24 = .ok (.istore_n 3, 1) := by decide +kernel
theorem dX11_rule_25 : decode cX11_rule 25 = .ok (.aload_n 0, 1) := by decide +kernel
theorem dX11_rule_26 : decode cX11_rule 26 = .ok (.getfield 85, 3) := by decide +kernel
theorem dX11_rule_29 : decode cX11_rule 29 = .ok (.iload_n 1, 1) := by decide +kernel
theorem dX11_rule_30 : decode cX11_rule 30 = .ok (.iload_n 2, 1) := by decide +kernel
theorem dX11_rule_31 : decode cX11_rule 31 = .ok (.iastore, 1) := by decide +kernel
theorem dX11_rule_32 : decode cX11_rule 32 = .ok (.iload_n 3, 1) := by decide +kernel
theorem dX11_rule_33 : decode cX11_rule 33 = .ok (.ireturn, 1) := by decide +kernel
set_option maxRecDepth 20000 in
theorem ggX11_window_X11_within : GoodIn wsX11_window wsX11_within := goodIn_r _ [5] rfl (by decide +kernel)
set_option maxRecDepth 20000 in
theorem gX11_window_X11_within : GoodIn wsX11_window (va_wsS RX11 108 yX11_within wsX11_within) := goodIn_app (goodIn_r _ [2, 3, 4] rfl (by decide +kernel)) ggX11_window_X11_within
set_option maxRecDepth 20000 in
theorem ggX11_window_X10_tellShare : GoodIn wsX11_window wsX10_tellShare := goodIn_r _ [10, 11, 30, 31, 32, 33, 34, 35] rfl (by decide +kernel)
set_option maxRecDepth 20000 in
theorem gX11_window_X10_tellShare : GoodIn wsX11_window (wsV RX11 135 RX10 yX10_tellShare wsX10_tellShare) := goodIn_app (goodIn_r _ [6, 7, 8, 9] rfl (by decide +kernel)) ggX11_window_X10_tellShare
set_option maxRecDepth 20000 in
theorem ggX11_window_X10_tellFee : GoodIn wsX11_window wsX10_tellFee := goodIn_r _ [15, 16, 30, 31, 32, 33, 34, 35] rfl (by decide +kernel)
set_option maxRecDepth 20000 in
theorem gX11_window_X10_tellFee : GoodIn wsX11_window (wsV RX11 139 RX10 yX10_tellFee wsX10_tellFee) := goodIn_app (goodIn_r _ [12, 13, 14, 9] rfl (by decide +kernel)) ggX11_window_X10_tellFee
theorem dX11_window_0 : decode cX11_window 0 = .ok (.iload_n 1, 1) := by decide +kernel
theorem dX11_window_1 : decode cX11_window 1 = .ok (.iconst 0, 1) := by decide +kernel
theorem dX11_window_2 : decode cX11_window 2 = .ok (.iconst 1, 1) := by decide +kernel
theorem dX11_window_3 : decode cX11_window 3 = .ok (.invokestatic 108, 3) := by decide +kernel
theorem dX11_window_6 : decode cX11_window 6 = .ok (.ifCond .eq 13, 3) := by decide +kernel
theorem dX11_window_9 : decode cX11_window 9 = .ok (.iload_n 2, 1) := by decide +kernel
theorem dX11_window_10 : decode cX11_window 10 = .ok (.iconst 0, 1) := by decide +kernel
theorem dX11_window_11 : decode cX11_window 11 = .ok (.bipush 99, 2) := by decide +kernel
theorem dX11_window_13 : decode cX11_window 13 = .ok (.invokestatic 108, 3) := by decide +kernel
theorem dX11_window_16 : decode cX11_window 16 = .ok (.ifCond .ne 5, 3) := by decide +kernel
theorem dX11_window_19 : decode cX11_window 19 = .ok (.iconst (-1), 1) := by decide +kernel
theorem dX11_window_20 : decode cX11_window 20 = .ok (.ireturn, 1) := by decide +kernel
theorem dX11_window_21 : decode cX11_window 21 = .ok (.iload_n 1, 1) := by decide +kernel
theorem dX11_window_22 : decode cX11_window 22 = .ok (.ifCond .ne 14, 3) := by decide +kernel
theorem dX11_window_25 : decode cX11_window 25 = .ok (.aload_n 0, 1) := by decide +kernel
theorem dX11_window_26 : decode cX11_window 26 = .ok (.getfield 40, 3) := by decide +kernel
theorem dX11_window_29 : decode cX11_window 29 = .ok (.iload_n 2, 1) := by decide +kernel
theorem dX11_window_30 : decode cX11_window 30 = .ok (.invokevirtual 135, 3) := by decide +kernel
theorem dX11_window_33 : decode cX11_window 33 = .ok (.goto 11, 3) := by decide +kernel
theorem dX11_window_36 : decode cX11_window 36 = .ok (.aload_n 0, 1) := by decide +kernel
theorem dX11_window_37 : decode cX11_window 37 = .ok (.getfield 40, 3) := by decide +kernel
theorem dX11_window_40 : decode cX11_window 40 = .ok (.iload_n 2, 1) := by decide +kernel
theorem dX11_window_41 : decode cX11_window 41 = .ok (.invokevirtual 139, 3) := by decide +kernel
theorem dX11_window_44 : decode cX11_window 44 = .ok (.ireturn, 1) := by decide +kernel
set_option maxRecDepth 20000 in
theorem ggX11_mend_X11_within : GoodIn wsX11_mend wsX11_within := goodIn_r _ [9] rfl (by decide +kernel)
set_option maxRecDepth 20000 in
theorem gX11_mend_X11_within : GoodIn wsX11_mend (va_wsS RX11 108 yX11_within wsX11_within) := goodIn_app (goodIn_r _ [6, 7, 8] rfl (by decide +kernel)) ggX11_mend_X11_within
set_option maxRecDepth 20000 in
theorem ggX11_mend_X1_knows : GoodIn wsX11_mend wsX1_knows := goodIn_r _ [14, 15, 58, 59, 60, 61, 62, 63] rfl (by decide +kernel)
set_option maxRecDepth 20000 in
theorem gX11_mend_X1_knows : GoodIn wsX11_mend (wsV RX11 122 RX1 yX1_knows wsX1_knows) := goodIn_app (goodIn_r _ [10, 11, 12, 13] rfl (by decide +kernel)) ggX11_mend_X1_knows
set_option maxRecDepth 20000 in
theorem ggX11_mend_X9_knows : GoodIn wsX11_mend wsX9_knows := goodIn_r _ [20, 21, 64, 65, 66, 67, 68] rfl (by decide +kernel)
set_option maxRecDepth 20000 in
theorem gX11_mend_X9_knows : GoodIn wsX11_mend (wsV RX11 148 RX9 yX9_knows wsX9_knows) := goodIn_app (goodIn_r _ [16, 17, 18, 19] rfl (by decide +kernel)) ggX11_mend_X9_knows
set_option maxRecDepth 20000 in
theorem ggX11_mend_X11_mendable : GoodIn wsX11_mend wsX11_mendable := goodIn_r _ [25, 3, 4, 45, 46, 47, 48, 49, 50, 51, 52, 53, 54, 55, 56, 57, 58, 59, 60, 61, 62, 63, 64, 65, 66, 67, 68] rfl (by decide +kernel)
set_option maxRecDepth 20000 in
theorem gX11_mend_X11_mendable : GoodIn wsX11_mend (wsV RX11 149 RX11 yX11_mendable wsX11_mendable) := goodIn_app (goodIn_r _ [22, 23, 24, 8] rfl (by decide +kernel)) ggX11_mend_X11_mendable
set_option maxRecDepth 20000 in
theorem ggX11_mend_X11_tell : GoodIn wsX11_mend wsX11_tell := goodIn_r _ [29, 3, 4, 45, 46, 47, 48, 49, 50, 51, 52, 53, 54, 55, 56, 57, 58, 59, 60, 61, 62, 63, 64, 65, 66, 67, 68] rfl (by decide +kernel)
set_option maxRecDepth 20000 in
theorem gX11_mend_X11_tell : GoodIn wsX11_mend (wsV RX11 153 RX11 yX11_tell wsX11_tell) := goodIn_app (goodIn_r _ [26, 27, 28, 8] rfl (by decide +kernel)) ggX11_mend_X11_tell
set_option maxRecDepth 20000 in
theorem ggX11_mend_X0_add : GoodIn wsX11_mend wsX0_add := goodIn_r _ [34, 35, 36, 37, 38, 39, 40, 41, 42, 43, 33, 44, 69, 70, 71, 72, 73, 74] rfl (by decide +kernel)
set_option maxRecDepth 20000 in
theorem gX11_mend_X0_add : GoodIn wsX11_mend (wsV RX11 157 RX0 yX0_add wsX0_add) := goodIn_app (goodIn_r _ [30, 31, 32, 33] rfl (by decide +kernel)) ggX11_mend_X0_add
theorem dX11_mend_0 : decode cX11_mend 0 = .ok (.iload_n 2, 1) := by decide +kernel
theorem dX11_mend_1 : decode cX11_mend 1 = .ok (.iconst 0, 1) := by decide +kernel
theorem dX11_mend_2 : decode cX11_mend 2 = .ok (.getstatic 142, 3) := by decide +kernel
theorem dX11_mend_5 : decode cX11_mend 5 = .ok (.arraylength, 1) := by decide +kernel
theorem dX11_mend_6 : decode cX11_mend 6 = .ok (.iconst 1, 1) := by decide +kernel
theorem dX11_mend_7 : decode cX11_mend 7 = .ok (.isub, 1) := by decide +kernel
theorem dX11_mend_8 : decode cX11_mend 8 = .ok (.invokestatic 108, 3) := by decide +kernel
theorem dX11_mend_11 : decode cX11_mend 11 = .ok (.ifCond .eq 20, 3) := by decide +kernel
theorem dX11_mend_14 : decode cX11_mend 14 = .ok (.iload_n 3, 1) := by decide +kernel
theorem dX11_mend_15 : decode cX11_mend 15 = .ok (.getstatic 145, 3) := by decide +kernel
theorem dX11_mend_18 : decode cX11_mend 18 = .ok (.iload_n 2, 1) := by decide +kernel
theorem dX11_mend_19 : decode cX11_mend 19 = .ok (.iaload, 1) := by decide +kernel
theorem dX11_mend_20 : decode cX11_mend 20 = .ok (.getstatic 142, 3) := by decide +kernel
theorem dX11_mend_23 : decode cX11_mend 23 = .ok (.iload_n 2, 1) := by decide +kernel
theorem dX11_mend_24 : decode cX11_mend 24 = .ok (.iaload, 1) := by decide +kernel
theorem dX11_mend_25 : decode cX11_mend 25 = .ok (.invokestatic 108, 3) := by decide +kernel
theorem dX11_mend_28 : decode cX11_mend 28 = .ok (.ifCond .ne 5, 3) := by decide +kernel
theorem dX11_mend_31 : decode cX11_mend 31 = .ok (.iconst (-1), 1) := by decide +kernel
theorem dX11_mend_32 : decode cX11_mend 32 = .ok (.ireturn, 1) := by decide +kernel
theorem dX11_mend_33 : decode cX11_mend 33 = .ok (.iload_n 2, 1) := by decide +kernel
theorem dX11_mend_34 : decode cX11_mend 34 = .ok (.iconst 3, 1) := by decide +kernel
theorem dX11_mend_35 : decode cX11_mend 35 = .ok (.if_icmp .ge 17, 3) := by decide +kernel
theorem dX11_mend_38 : decode cX11_mend 38 = .ok (.aload_n 0, 1) := by decide +kernel
theorem dX11_mend_39 : decode cX11_mend 39 = .ok (.getfield 12, 3) := by decide +kernel
theorem dX11_mend_42 : decode cX11_mend 42 = .ok (.iload_n 1, 1) := by decide +kernel
theorem dX11_mend_43 : decode cX11_mend 43 = .ok (.invokevirtual 122, 3) := by decide +kernel
theorem dX11_mend_46 : decode cX11_mend 46 = .ok (.ifCond .ne 19, 3) := by decide +kernel
theorem dX11_mend_49 : decode cX11_mend 49 = .ok (.goto 14, 3) := by decide +kernel
theorem dX11_mend_52 : decode cX11_mend 52 = .ok (.aload_n 0, 1) := by decide +kernel
theorem dX11_mend_53 : decode cX11_mend 53 = .ok (.getfield 19, 3) := by decide +kernel
theorem dX11_mend_56 : decode cX11_mend 56 = .ok (.iload_n 1, 1) := by decide +kernel
theorem dX11_mend_57 : decode cX11_mend 57 = .ok (.invokevirtual 148, 3) := by decide +kernel
theorem dX11_mend_60 : decode cX11_mend 60 = .ok (.ifCond .ne 5, 3) := by decide +kernel
theorem dX11_mend_63 : decode cX11_mend 63 = .ok (.iconst (-1), 1) := by decide +kernel
theorem dX11_mend_64 : decode cX11_mend 64 = .ok (.ireturn, 1) := by decide +kernel
theorem dX11_mend_65 : decode cX11_mend 65 = .ok (.aload_n 0, 1) := by decide +kernel
theorem dX11_mend_66 : decode cX11_mend 66 = .ok (.iload_n 1, 1) := by decide +kernel
theorem dX11_mend_67 : decode cX11_mend 67 = .ok (.iload_n 2, 1) := by decide +kernel
theorem dX11_mend_68 : decode cX11_mend 68 = .ok (.invokevirtual 149, 3) := by decide +kernel
theorem dX11_mend_71 : decode cX11_mend 71 = .ok (.istore 4, 2) := by decide +kernel
theorem dX11_mend_73 : decode cX11_mend 73 = .ok (.iload 4, 2) := by decide +kernel
theorem dX11_mend_75 : decode cX11_mend 75 = .ok (.iload_n 3, 1) := by decide +kernel
theorem dX11_mend_76 : decode cX11_mend 76 = .ok (.if_icmp .eq 22, 3) := by decide +kernel
theorem dX11_mend_79 : decode cX11_mend 79 = .ok (.aload_n 0, 1) := by decide +kernel
theorem dX11_mend_80 : decode cX11_mend 80 = .ok (.iload_n 1, 1) := by decide +kernel
theorem dX11_mend_81 : decode cX11_mend 81 = .ok (.iload_n 2, 1) := by decide +kernel
theorem dX11_mend_82 : decode cX11_mend 82 = .ok (.iload_n 3, 1) := by decide +kernel
theorem dX11_mend_83 : decode cX11_mend 83 = .ok (.invokevirtual 153, 3) := by decide +kernel
theorem dX11_mend_86 : decode cX11_mend 86 = .ok (.aload_n 0, 1) := by decide +kernel
theorem dX11_mend_87 : decode cX11_mend 87 = .ok (.getfield 61, 3) := by decide +kernel
theorem dX11_mend_90 : decode cX11_mend 90 = .ok (.iload_n 1, 1) := by decide +kernel
theorem dX11_mend_91 : decode cX11_mend 91 = .ok (.iload_n 2, 1) := by decide +kernel
theorem dX11_mend_92 : decode cX11_mend 92 = .ok (.iload 4, 2) := by decide +kernel
theorem dX11_mend_94 : decode cX11_mend 94 = .ok (.iload_n 3, 1) := by decide +kernel
theorem dX11_mend_95 : decode cX11_mend 95 = .ok (.invokevirtual 157, 3) := by decide +kernel
theorem dX11_mend_98 : decode cX11_mend 98 = .ok (.iload 4, 2) := by decide +kernel
theorem dX11_mend_100 : decode cX11_mend 100 = .ok (.ireturn, 1) := by decide +kernel
set_option maxRecDepth 20000 in
theorem ggX11_of_X11_within : GoodIn wsX11_of wsX11_within := goodIn_r _ [7] rfl (by decide +kernel)
set_option maxRecDepth 20000 in
theorem gX11_of_X11_within : GoodIn wsX11_of (va_wsS RX11 108 yX11_within wsX11_within) := goodIn_app (goodIn_r _ [4, 5, 6] rfl (by decide +kernel)) ggX11_of_X11_within
set_option maxRecDepth 20000 in
theorem ggX11_of_X1_knows : GoodIn wsX11_of wsX1_knows := goodIn_r _ [12, 13, 51, 52, 53, 54, 55, 56] rfl (by decide +kernel)
set_option maxRecDepth 20000 in
theorem gX11_of_X1_knows : GoodIn wsX11_of (wsV RX11 122 RX1 yX1_knows wsX1_knows) := goodIn_app (goodIn_r _ [8, 9, 10, 11] rfl (by decide +kernel)) ggX11_of_X1_knows
set_option maxRecDepth 20000 in
theorem ggX11_of_X11_ofSort : GoodIn wsX11_of wsX11_ofSort := goodIn_r _ [17, 1, 38, 39, 40, 41, 42, 43, 44, 45, 46, 47, 48, 49, 50, 51, 52, 53, 54, 55, 56] rfl (by decide +kernel)
set_option maxRecDepth 20000 in
theorem gX11_of_X11_ofSort : GoodIn wsX11_of (wsV RX11 160 RX11 yX11_ofSort wsX11_ofSort) := goodIn_app (goodIn_r _ [14, 15, 16, 6] rfl (by decide +kernel)) ggX11_of_X11_ofSort
set_option maxRecDepth 20000 in
theorem ggX11_of_X9_knows : GoodIn wsX11_of wsX9_knows := goodIn_r _ [22, 23, 57, 58, 59, 60, 61] rfl (by decide +kernel)
set_option maxRecDepth 20000 in
theorem gX11_of_X9_knows : GoodIn wsX11_of (wsV RX11 148 RX9 yX9_knows wsX9_knows) := goodIn_app (goodIn_r _ [18, 19, 20, 21] rfl (by decide +kernel)) ggX11_of_X9_knows
set_option maxRecDepth 20000 in
theorem ggX11_of_X11_ofThing : GoodIn wsX11_of wsX11_ofThing := goodIn_r _ [27, 2, 38, 39, 40, 41, 42, 43, 44, 45, 46, 47, 48, 49, 50, 57, 58, 59, 60, 61] rfl (by decide +kernel)
set_option maxRecDepth 20000 in
theorem gX11_of_X11_ofThing : GoodIn wsX11_of (wsV RX11 163 RX11 yX11_ofThing wsX11_ofThing) := goodIn_app (goodIn_r _ [24, 25, 26, 6] rfl (by decide +kernel)) ggX11_of_X11_ofThing
set_option maxRecDepth 20000 in
theorem ggX11_of_X11_isLand : GoodIn wsX11_of wsX11_isLand := goodIn_r _ [30, 4, 5, 6, 7] rfl (by decide +kernel)
set_option maxRecDepth 20000 in
theorem gX11_of_X11_isLand : GoodIn wsX11_of (va_wsS RX11 132 yX11_isLand wsX11_isLand) := goodIn_app (goodIn_r _ [28, 29, 6] rfl (by decide +kernel)) ggX11_of_X11_isLand
set_option maxRecDepth 20000 in
theorem ggX11_of_X1_worthOf : GoodIn wsX11_of wsX1_worthOf := goodIn_r _ [34, 13, 35, 36, 37, 51, 52, 53, 54, 55, 56] rfl (by decide +kernel)
set_option maxRecDepth 20000 in
theorem gX11_of_X1_worthOf : GoodIn wsX11_of (wsV RX11 166 RX1 yX1_worthOf wsX1_worthOf) := goodIn_app (goodIn_r _ [31, 32, 33, 11] rfl (by decide +kernel)) ggX11_of_X1_worthOf
theorem dX11_of_0 : decode cX11_of 0 = .ok (.iload_n 2, 1) := by decide +kernel
theorem dX11_of_1 : decode cX11_of 1 = .ok (.iconst 0, 1) := by decide +kernel
theorem dX11_of_2 : decode cX11_of 2 = .ok (.iconst 4, 1) := by decide +kernel
theorem dX11_of_3 : decode cX11_of 3 = .ok (.invokestatic 108, 3) := by decide +kernel
theorem dX11_of_6 : decode cX11_of 6 = .ok (.ifCond .eq 25, 3) := by decide +kernel
theorem dX11_of_9 : decode cX11_of 9 = .ok (.aload_n 0, 1) := by decide +kernel
theorem dX11_of_10 : decode cX11_of 10 = .ok (.getfield 12, 3) := by decide +kernel
theorem dX11_of_13 : decode cX11_of 13 = .ok (.iload_n 1, 1) := by decide +kernel
theorem dX11_of_14 : decode cX11_of 14 = .ok (.invokevirtual 122, 3) := by decide +kernel
theorem dX11_of_17 : decode cX11_of 17 = .ok (.ifCond .eq 12, 3) := by decide +kernel
theorem dX11_of_20 : decode cX11_of 20 = .ok (.aload_n 0, 1) := by decide +kernel
theorem dX11_of_21 : decode cX11_of 21 = .ok (.iload_n 1, 1) := by decide +kernel
theorem dX11_of_22 : decode cX11_of 22 = .ok (.iload_n 2, 1) := by decide +kernel
theorem dX11_of_23 : decode cX11_of 23 = .ok (.invokevirtual 160, 3) := by decide +kernel
theorem dX11_of_26 : decode cX11_of 26 = .ok (.goto 4, 3) := by decide +kernel
theorem dX11_of_29 : decode cX11_of 29 = .ok (.iconst (-1), 1) := by decide +kernel
theorem dX11_of_30 : decode cX11_of 30 = .ok (.ireturn, 1) := by decide +kernel
theorem dX11_of_31 : decode cX11_of 31 = .ok (.iload_n 2, 1) := by decide +kernel
theorem dX11_of_32 : decode cX11_of 32 = .ok (.bipush 10, 2) := by decide +kernel
theorem dX11_of_34 : decode cX11_of 34 = .ok (.bipush 13, 2) := by decide +kernel
theorem dX11_of_36 : decode cX11_of 36 = .ok (.invokestatic 108, 3) := by decide +kernel
theorem dX11_of_39 : decode cX11_of 39 = .ok (.ifCond .eq 25, 3) := by decide +kernel
theorem dX11_of_42 : decode cX11_of 42 = .ok (.aload_n 0, 1) := by decide +kernel
theorem dX11_of_43 : decode cX11_of 43 = .ok (.getfield 19, 3) := by decide +kernel
theorem dX11_of_46 : decode cX11_of 46 = .ok (.iload_n 1, 1) := by decide +kernel
theorem dX11_of_47 : decode cX11_of 47 = .ok (.invokevirtual 148, 3) := by decide +kernel
theorem dX11_of_50 : decode cX11_of 50 = .ok (.ifCond .eq 12, 3) := by decide +kernel
theorem dX11_of_53 : decode cX11_of 53 = .ok (.aload_n 0, 1) := by decide +kernel
theorem dX11_of_54 : decode cX11_of 54 = .ok (.iload_n 1, 1) := by decide +kernel
theorem dX11_of_55 : decode cX11_of 55 = .ok (.iload_n 2, 1) := by decide +kernel
theorem dX11_of_56 : decode cX11_of 56 = .ok (.invokevirtual 163, 3) := by decide +kernel
theorem dX11_of_59 : decode cX11_of 59 = .ok (.goto 4, 3) := by decide +kernel
theorem dX11_of_62 : decode cX11_of 62 = .ok (.iconst (-1), 1) := by decide +kernel
theorem dX11_of_63 : decode cX11_of 63 = .ok (.ireturn, 1) := by decide +kernel
theorem dX11_of_64 : decode cX11_of 64 = .ok (.iload_n 1, 1) := by decide +kernel
theorem dX11_of_65 : decode cX11_of 65 = .ok (.invokestatic 132, 3) := by decide +kernel
theorem dX11_of_68 : decode cX11_of 68 = .ok (.ifCond .eq 14, 3) := by decide +kernel
theorem dX11_of_71 : decode cX11_of 71 = .ok (.iload_n 2, 1) := by decide +kernel
theorem dX11_of_72 : decode cX11_of 72 = .ok (.bipush 20, 2) := by decide +kernel
theorem dX11_of_74 : decode cX11_of 74 = .ok (.bipush 21, 2) := by decide +kernel
theorem dX11_of_76 : decode cX11_of 76 = .ok (.invokestatic 108, 3) := by decide +kernel
theorem dX11_of_79 : decode cX11_of 79 = .ok (.ifCond .ne 5, 3) := by decide +kernel
theorem dX11_of_82 : decode cX11_of 82 = .ok (.iconst (-1), 1) := by decide +kernel
theorem dX11_of_83 : decode cX11_of 83 = .ok (.ireturn, 1) := by decide +kernel
theorem dX11_of_84 : decode cX11_of 84 = .ok (.iload_n 2, 1) := by decide +kernel
theorem dX11_of_85 : decode cX11_of 85 = .ok (.bipush 20, 2) := by decide +kernel
theorem dX11_of_87 : decode cX11_of 87 = .ok (.if_icmp .ne 12, 3) := by decide +kernel
theorem dX11_of_90 : decode cX11_of 90 = .ok (.aload_n 0, 1) := by decide +kernel
theorem dX11_of_91 : decode cX11_of 91 = .ok (.getfield 85, 3) := by decide +kernel
theorem dX11_of_94 : decode cX11_of 94 = .ok (.iload_n 1, 1) := by decide +kernel
theorem dX11_of_95 : decode cX11_of 95 = .ok (.iaload, 1) := by decide +kernel
theorem dX11_of_96 : decode cX11_of 96 = .ok (.goto 11, 3) := by decide +kernel
theorem dX11_of_99 : decode cX11_of 99 = .ok (.aload_n 0, 1) := by decide +kernel
theorem dX11_of_100 : decode cX11_of 100 = .ok (.getfield 12, 3) := by decide +kernel
theorem dX11_of_103 : decode cX11_of 103 = .ok (.iload_n 1, 1) := by decide +kernel
theorem dX11_of_104 : decode cX11_of 104 = .ok (.invokevirtual 166, 3) := by decide +kernel
theorem dX11_of_107 : decode cX11_of 107 = .ok (.ireturn, 1) := by decide +kernel
set_option maxRecDepth 20000 in
theorem ggX11_feed_X11_within : GoodIn wsX11_feed wsX11_within := goodIn_r _ [5] rfl (by decide +kernel)
set_option maxRecDepth 20000 in
theorem gX11_feed_X11_within : GoodIn wsX11_feed (va_wsS RX11 108 yX11_within wsX11_within) := goodIn_app (goodIn_r _ [2, 3, 4] rfl (by decide +kernel)) ggX11_feed_X11_within
set_option maxRecDepth 20000 in
theorem ggX11_feed_X6_add : GoodIn wsX11_feed wsX6_add := goodIn_r _ [10, 11, 12, 26, 27, 28, 29, 30, 31] rfl (by decide +kernel)
set_option maxRecDepth 20000 in
theorem gX11_feed_X6_add : GoodIn wsX11_feed (wsV RX11 169 RX6 yX6_add wsX6_add) := goodIn_app (goodIn_r _ [6, 7, 8, 9] rfl (by decide +kernel)) ggX11_feed_X6_add
theorem dX11_feed_0 : decode cX11_feed 0 = .ok (.iload_n 1, 1) := by decide +kernel
theorem dX11_feed_1 : decode cX11_feed 1 = .ok (.iconst 0, 1) := by decide +kernel
theorem dX11_feed_2 : decode cX11_feed 2 = .ok (.sipush 255, 3) := by decide +kernel
theorem dX11_feed_5 : decode cX11_feed 5 = .ok (.invokestatic 108, 3) := by decide +kernel
theorem dX11_feed_8 : decode cX11_feed 8 = .ok (.ifCond .eq 14, 3) := by decide +kernel
theorem dX11_feed_11 : decode cX11_feed 11 = .ok (.aload_n 0, 1) := by decide +kernel
theorem dX11_feed_12 : decode cX11_feed 12 = .ok (.getfield 33, 3) := by decide +kernel
theorem dX11_feed_15 : decode cX11_feed 15 = .ok (.iload_n 1, 1) := by decide +kernel
theorem dX11_feed_16 : decode cX11_feed 16 = .ok (.invokevirtual 169, 3) := by decide +kernel
theorem dX11_feed_19 : decode cX11_feed 19 = .ok (.goto 4, 3) := by decide +kernel
theorem dX11_feed_22 : decode cX11_feed 22 = .ok (.iconst (-1), 1) := by decide +kernel
theorem dX11_feed_23 : decode cX11_feed 23 = .ok (.ireturn, 1) := by decide +kernel
set_option maxRecDepth 20000 in
theorem ggX11_law_X11_within : GoodIn wsX11_law wsX11_within := goodIn_r _ [7] rfl (by decide +kernel)
set_option maxRecDepth 20000 in
theorem gX11_law_X11_within : GoodIn wsX11_law (va_wsS RX11 108 yX11_within wsX11_within) := goodIn_app (goodIn_r _ [4, 5, 6] rfl (by decide +kernel)) ggX11_law_X11_within
set_option maxRecDepth 20000 in
theorem ggX11_law_X6_parse : GoodIn wsX11_law wsX6_parse := goodIn_r _ [12, 13, 14, 15, 16, 17, 18, 19, 11, 20, 21, 22, 23, 24, 25, 26, 27, 28, 29, 30, 31, 32, 33, 34, 35, 36, 37, 38, 39, 40, 41, 42, 43, 44, 45, 46, 47, 5, 6, 7, 48, 49, 50, 51, 52, 53, 54, 55, 56, 57, 58, 59, 60, 61, 88, 89, 90, 91, 92, 93] rfl (by decide +kernel)
set_option maxRecDepth 20000 in
theorem gX11_law_X6_parse : GoodIn wsX11_law (wsV RX11 171 RX6 yX6_parse wsX6_parse) := goodIn_app (goodIn_r _ [8, 9, 10, 11] rfl (by decide +kernel)) ggX11_law_X6_parse
set_option maxRecDepth 20000 in
theorem ggX11_law_X8_become : GoodIn wsX11_law wsX8_become := goodIn_r _ [65, 66, 67, 68, 94, 95, 96, 97, 98] rfl (by decide +kernel)
set_option maxRecDepth 20000 in
theorem gX11_law_X8_become : GoodIn wsX11_law (wsV RX11 184 RX8 yX8_become wsX8_become) := goodIn_app (goodIn_r _ [62, 63, 64, 46] rfl (by decide +kernel)) ggX11_law_X8_become
theorem dX11_law_0 : decode cX11_law 0 = .ok (.iload_n 1, 1) := by decide +kernel
theorem dX11_law_1 : decode cX11_law 1 = .ok (.iconst 0, 1) := by decide +kernel
theorem dX11_law_2 : decode cX11_law 2 = .ok (.iconst 1, 1) := by decide +kernel
theorem dX11_law_3 : decode cX11_law 3 = .ok (.invokestatic 108, 3) := by decide +kernel
theorem dX11_law_6 : decode cX11_law 6 = .ok (.ifCond .ne 5, 3) := by decide +kernel
theorem dX11_law_9 : decode cX11_law 9 = .ok (.iconst (-1), 1) := by decide +kernel
theorem dX11_law_10 : decode cX11_law 10 = .ok (.ireturn, 1) := by decide +kernel
theorem dX11_law_11 : decode cX11_law 11 = .ok (.aload_n 0, 1) := by decide +kernel
theorem dX11_law_12 : decode cX11_law 12 = .ok (.getfield 33, 3) := by decide +kernel
theorem dX11_law_15 : decode cX11_law 15 = .ok (.invokevirtual 171, 3) := by decide +kernel
theorem dX11_law_18 : decode cX11_law 18 = .ok (.istore_n 2, 1) := by decide +kernel
theorem dX11_law_19 : decode cX11_law 19 = .ok (.iload_n 2, 1) := by decide +kernel
theorem dX11_law_20 : decode cX11_law 20 = .ok (.ifCond .lt 8, 3) := by decide +kernel
theorem dX11_law_23 : decode cX11_law 23 = .ok (.bipush (-100), 2) := by decide +kernel
theorem dX11_law_25 : decode cX11_law 25 = .ok (.iload_n 2, 1) := by decide +kernel
theorem dX11_law_26 : decode cX11_law 26 = .ok (.isub, 1) := by decide +kernel
theorem dX11_law_27 : decode cX11_law 27 = .ok (.ireturn, 1) := by decide +kernel
theorem dX11_law_28 : decode cX11_law 28 = .ok (.iload_n 1, 1) := by decide +kernel
theorem dX11_law_29 : decode cX11_law 29 = .ok (.ifCond .ne 13, 3) := by decide +kernel
theorem dX11_law_32 : decode cX11_law 32 = .ok (.aload_n 0, 1) := by decide +kernel
theorem dX11_law_33 : decode cX11_law 33 = .ok (.getfield 40, 3) := by decide +kernel
theorem dX11_law_36 : decode cX11_law 36 = .ok (.getfield 175, 3) := by decide +kernel
theorem dX11_law_39 : decode cX11_law 39 = .ok (.goto 7, 3) := by decide +kernel
theorem dX11_law_42 : decode cX11_law 42 = .ok (.aload_n 0, 1) := by decide +kernel
theorem dX11_law_43 : decode cX11_law 43 = .ok (.getfield 47, 3) := by decide +kernel
theorem dX11_law_46 : decode cX11_law 46 = .ok (.astore_n 3, 1) := by decide +kernel
theorem dX11_law_47 : decode cX11_law 47 = .ok (.aload_n 3, 1) := by decide +kernel
theorem dX11_law_48 : decode cX11_law 48 = .ok (.aload_n 0, 1) := by decide +kernel
theorem dX11_law_49 : decode cX11_law 49 = .ok (.getfield 33, 3) := by decide +kernel
theorem dX11_law_52 : decode cX11_law 52 = .ok (.getfield 178, 3) := by decide +kernel
theorem dX11_law_55 : decode cX11_law 55 = .ok (.aload_n 0, 1) := by decide +kernel
theorem dX11_law_56 : decode cX11_law 56 = .ok (.getfield 33, 3) := by decide +kernel
theorem dX11_law_59 : decode cX11_law 59 = .ok (.getfield 181, 3) := by decide +kernel
theorem dX11_law_62 : decode cX11_law 62 = .ok (.invokevirtual 184, 3) := by decide +kernel
theorem dX11_law_65 : decode cX11_law 65 = .ok (.iconst 1, 1) := by decide +kernel
theorem dX11_law_66 : decode cX11_law 66 = .ok (.ireturn, 1) := by decide +kernel
set_option maxRecDepth 20000 in
theorem ggX11_rate_X11_isPair : GoodIn wsX11_rate wsX11_isPair := goodIn_r _ [5, 6, 7, 4, 8, 9, 10, 11] rfl (by decide +kernel)
set_option maxRecDepth 20000 in
theorem gX11_rate_X11_isPair : GoodIn wsX11_rate (va_wsS RX11 188 yX11_isPair wsX11_isPair) := goodIn_app (goodIn_r _ [2, 3, 4] rfl (by decide +kernel)) ggX11_rate_X11_isPair
set_option maxRecDepth 20000 in
theorem ggX11_rate_X11_isDay : GoodIn wsX11_rate wsX11_isDay := goodIn_r _ [14, 9, 10, 4, 11] rfl (by decide +kernel)
set_option maxRecDepth 20000 in
theorem gX11_rate_X11_isDay : GoodIn wsX11_rate (va_wsS RX11 191 yX11_isDay wsX11_isDay) := goodIn_app (goodIn_r _ [12, 13, 4] rfl (by decide +kernel)) ggX11_rate_X11_isDay
set_option maxRecDepth 20000 in
theorem ggX11_rate_X10_rateOf : GoodIn wsX11_rate wsX10_rateOf := goodIn_r _ [19, 20, 21, 22, 23, 24, 25, 26, 27, 28, 29, 30, 31, 32, 33, 34, 35, 36, 37, 38, 39, 40, 4, 41, 42, 43, 44, 45, 46, 47, 48, 62, 63, 64, 65, 66, 67, 68, 69, 70, 71, 72] rfl (by decide +kernel)
set_option maxRecDepth 20000 in
theorem gX11_rate_X10_rateOf : GoodIn wsX11_rate (wsV RX11 194 RX10 yX10_rateOf wsX10_rateOf) := goodIn_app (goodIn_r _ [15, 16, 17, 18] rfl (by decide +kernel)) ggX11_rate_X10_rateOf
theorem dX11_rate_0 : decode cX11_rate 0 = .ok (.iload_n 1, 1) := by decide +kernel
theorem dX11_rate_1 : decode cX11_rate 1 = .ok (.invokestatic 188, 3) := by decide +kernel
theorem dX11_rate_4 : decode cX11_rate 4 = .ok (.ifCond .eq 29, 3) := by decide +kernel
theorem dX11_rate_7 : decode cX11_rate 7 = .ok (.iload_n 2, 1) := by decide +kernel
theorem dX11_rate_8 : decode cX11_rate 8 = .ok (.invokestatic 191, 3) := by decide +kernel
theorem dX11_rate_11 : decode cX11_rate 11 = .ok (.ifCond .eq 22, 3) := by decide +kernel
theorem dX11_rate_14 : decode cX11_rate 14 = .ok (.aload_n 0, 1) := by decide +kernel
theorem dX11_rate_15 : decode cX11_rate 15 = .ok (.getfield 40, 3) := by decide +kernel
theorem dX11_rate_18 : decode cX11_rate 18 = .ok (.iload_n 1, 1) := by decide +kernel
theorem dX11_rate_19 : decode cX11_rate 19 = .ok (.bipush 10, 2) := by decide +kernel
theorem dX11_rate_21 : decode cX11_rate 21 = .ok (.idiv, 1) := by decide +kernel
theorem dX11_rate_22 : decode cX11_rate 22 = .ok (.iload_n 1, 1) := by decide +kernel
theorem dX11_rate_23 : decode cX11_rate 23 = .ok (.bipush 10, 2) := by decide +kernel
theorem dX11_rate_25 : decode cX11_rate 25 = .ok (.irem, 1) := by decide +kernel
theorem dX11_rate_26 : decode cX11_rate 26 = .ok (.iload_n 2, 1) := by decide +kernel
theorem dX11_rate_27 : decode cX11_rate 27 = .ok (.invokevirtual 194, 3) := by decide +kernel
theorem dX11_rate_30 : decode cX11_rate 30 = .ok (.goto 4, 3) := by decide +kernel
theorem dX11_rate_33 : decode cX11_rate 33 = .ok (.iconst (-1), 1) := by decide +kernel
theorem dX11_rate_34 : decode cX11_rate 34 = .ok (.ireturn, 1) := by decide +kernel
set_option maxRecDepth 20000 in
theorem ggX11_paid_X11_isAmount : GoodIn wsX11_paid wsX11_isAmount := goodIn_r _ [6, 7, 8, 5, 9, 10, 11, 12] rfl (by decide +kernel)
set_option maxRecDepth 20000 in
theorem gX11_paid_X11_isAmount : GoodIn wsX11_paid (va_wsS RX11 198 yX11_isAmount wsX11_isAmount) := goodIn_app (goodIn_r _ [3, 4, 5] rfl (by decide +kernel)) ggX11_paid_X11_isAmount
set_option maxRecDepth 20000 in
theorem ggX11_paid_X11_within : GoodIn wsX11_paid wsX11_within := goodIn_r _ [12] rfl (by decide +kernel)
set_option maxRecDepth 20000 in
theorem gX11_paid_X11_within : GoodIn wsX11_paid (va_wsS RX11 108 yX11_within wsX11_within) := goodIn_app (goodIn_r _ [10, 11, 5] rfl (by decide +kernel)) ggX11_paid_X11_within
set_option maxRecDepth 20000 in
theorem ggX11_paid_X1_knows : GoodIn wsX11_paid wsX1_knows := goodIn_r _ [17, 18, 69, 70, 71, 72, 73, 74] rfl (by decide +kernel)
set_option maxRecDepth 20000 in
theorem gX11_paid_X1_knows : GoodIn wsX11_paid (wsV RX11 122 RX1 yX1_knows wsX1_knows) := goodIn_app (goodIn_r _ [13, 14, 15, 16] rfl (by decide +kernel)) ggX11_paid_X1_knows
set_option maxRecDepth 20000 in
theorem ggX11_paid_X5_pay : GoodIn wsX11_paid wsX5_pay := goodIn_r _ [23, 24, 25, 26, 27, 11, 5, 12, 28, 29, 30, 31, 32, 33, 34, 35, 36, 22, 37, 38, 39, 40, 41, 42, 43, 44, 45, 46, 47, 48, 49, 50, 64, 65, 66, 67, 68, 69, 70, 71, 72, 73, 74] rfl (by decide +kernel)
set_option maxRecDepth 20000 in
theorem gX11_paid_X5_pay : GoodIn wsX11_paid (wsV RX11 201 RX5 yX5_pay wsX5_pay) := goodIn_app (goodIn_r _ [19, 20, 21, 22] rfl (by decide +kernel)) ggX11_paid_X5_pay
theorem dX11_paid_0 : decode cX11_paid 0 = .ok (.iload_n 1, 1) := by decide +kernel
theorem dX11_paid_1 : decode cX11_paid 1 = .ok (.invokestatic 198, 3) := by decide +kernel
theorem dX11_paid_4 : decode cX11_paid 4 = .ok (.ifCond .eq 28, 3) := by decide +kernel
theorem dX11_paid_7 : decode cX11_paid 7 = .ok (.iload_n 2, 1) := by decide +kernel
theorem dX11_paid_8 : decode cX11_paid 8 = .ok (.iconst 0, 1) := by decide +kernel
theorem dX11_paid_9 : decode cX11_paid 9 = .ok (.iconst 1, 1) := by decide +kernel
theorem dX11_paid_10 : decode cX11_paid 10 = .ok (.invokestatic 108, 3) := by decide +kernel
theorem dX11_paid_13 : decode cX11_paid 13 = .ok (.ifCond .eq 19, 3) := by decide +kernel
theorem dX11_paid_16 : decode cX11_paid 16 = .ok (.iload_n 3, 1) := by decide +kernel
theorem dX11_paid_17 : decode cX11_paid 17 = .ok (.iconst (-1), 1) := by decide +kernel
theorem dX11_paid_18 : decode cX11_paid 18 = .ok (.if_icmp .eq 16, 3) := by decide +kernel
theorem dX11_paid_21 : decode cX11_paid 21 = .ok (.aload_n 0, 1) := by decide +kernel
theorem dX11_paid_22 : decode cX11_paid 22 = .ok (.getfield 12, 3) := by decide +kernel
theorem dX11_paid_25 : decode cX11_paid 25 = .ok (.iload_n 3, 1) := by decide +kernel
theorem dX11_paid_26 : decode cX11_paid 26 = .ok (.invokevirtual 122, 3) := by decide +kernel
theorem dX11_paid_29 : decode cX11_paid 29 = .ok (.ifCond .ne 5, 3) := by decide +kernel
theorem dX11_paid_32 : decode cX11_paid 32 = .ok (.iconst (-1), 1) := by decide +kernel
theorem dX11_paid_33 : decode cX11_paid 33 = .ok (.ireturn, 1) := by decide +kernel
theorem dX11_paid_34 : decode cX11_paid 34 = .ok (.aload_n 0, 1) := by decide +kernel
theorem dX11_paid_35 : decode cX11_paid 35 = .ok (.getfield 26, 3) := by decide +kernel
theorem dX11_paid_38 : decode cX11_paid 38 = .ok (.aload_n 0, 1) := by decide +kernel
theorem dX11_paid_39 : decode cX11_paid 39 = .ok (.getfield 12, 3) := by decide +kernel
theorem dX11_paid_42 : decode cX11_paid 42 = .ok (.iload_n 1, 1) := by decide +kernel
theorem dX11_paid_43 : decode cX11_paid 43 = .ok (.sipush 10000, 3) := by decide +kernel
theorem dX11_paid_46 : decode cX11_paid 46 = .ok (.idiv, 1) := by decide +kernel
theorem dX11_paid_47 : decode cX11_paid 47 = .ok (.iload_n 1, 1) := by decide +kernel
theorem dX11_paid_48 : decode cX11_paid 48 = .ok (.sipush 10000, 3) := by decide +kernel
theorem dX11_paid_51 : decode cX11_paid 51 = .ok (.irem, 1) := by decide +kernel
theorem dX11_paid_52 : decode cX11_paid 52 = .ok (.iload_n 2, 1) := by decide +kernel
theorem dX11_paid_53 : decode cX11_paid 53 = .ok (.iconst 1, 1) := by decide +kernel
theorem dX11_paid_54 : decode cX11_paid 54 = .ok (.if_icmp .ne 7, 3) := by decide +kernel
theorem dX11_paid_57 : decode cX11_paid 57 = .ok (.iconst 1, 1) := by decide +kernel
theorem dX11_paid_58 : decode cX11_paid 58 = .ok (.goto 4, 3) := by decide +kernel
theorem dX11_paid_61 : decode cX11_paid 61 = .ok (.iconst 0, 1) := by decide +kernel
theorem dX11_paid_62 : decode cX11_paid 62 = .ok (.invokevirtual 201, 3) := by decide +kernel
theorem dX11_paid_65 : decode cX11_paid 65 = .ok (.istore 4, 2) := by decide +kernel
theorem dX11_paid_67 : decode cX11_paid 67 = .ok (.iload 4, 2) := by decide +kernel
theorem dX11_paid_69 : decode cX11_paid 69 = .ok (.ifCond .ge 6, 3) := by decide +kernel
theorem dX11_paid_72 : decode cX11_paid 72 = .ok (.bipush (-2), 2) := by decide +kernel
theorem dX11_paid_74 : decode cX11_paid 74 = .ok (.ireturn, 1) := by decide +kernel
theorem dX11_paid_75 : decode cX11_paid 75 = .ok (.iload_n 3, 1) := by decide +kernel
theorem dX11_paid_76 : decode cX11_paid 76 = .ok (.iconst (-1), 1) := by decide +kernel
theorem dX11_paid_77 : decode cX11_paid 77 = .ok (.if_icmp .ne 8, 3) := by decide +kernel
theorem dX11_paid_80 : decode cX11_paid 80 = .ok (.iload 4, 2) := by decide +kernel
theorem dX11_paid_82 : decode cX11_paid 82 = .ok (.goto 12, 3) := by decide +kernel
theorem dX11_paid_85 : decode cX11_paid 85 = .ok (.aload_n 0, 1) := by decide +kernel
theorem dX11_paid_86 : decode cX11_paid 86 = .ok (.getfield 26, 3) := by decide +kernel
theorem dX11_paid_89 : decode cX11_paid 89 = .ok (.getfield 205, 3) := by decide +kernel
theorem dX11_paid_92 : decode cX11_paid 92 = .ok (.iload_n 3, 1) := by decide +kernel
theorem dX11_paid_93 : decode cX11_paid 93 = .ok (.iaload, 1) := by decide +kernel
theorem dX11_paid_94 : decode cX11_paid 94 = .ok (.ireturn, 1) := by decide +kernel
set_option maxRecDepth 20000 in
theorem ggX11_amounts_X11_isLand : GoodIn wsX11_amounts wsX11_isLand := goodIn_r _ [6, 7, 8, 5, 9] rfl (by decide +kernel)
set_option maxRecDepth 20000 in
theorem gX11_amounts_X11_isLand : GoodIn wsX11_amounts (va_wsS RX11 132 yX11_isLand wsX11_isLand) := goodIn_app (goodIn_r _ [3, 4, 5] rfl (by decide +kernel)) ggX11_amounts_X11_isLand
set_option maxRecDepth 20000 in
theorem ggX11_amounts_X11_within : GoodIn wsX11_amounts wsX11_within := goodIn_r _ [9] rfl (by decide +kernel)
set_option maxRecDepth 20000 in
theorem gX11_amounts_X11_within : GoodIn wsX11_amounts (va_wsS RX11 108 yX11_within wsX11_within) := goodIn_app (goodIn_r _ [7, 8, 5] rfl (by decide +kernel)) ggX11_amounts_X11_within
set_option maxRecDepth 20000 in
theorem ggX11_amounts_X5_spread : GoodIn wsX11_amounts wsX5_spread := goodIn_r _ [14, 15, 16, 17, 18, 19, 20, 21, 22, 13, 23, 62, 63, 64, 65, 66, 56, 57, 58, 59, 60, 61] rfl (by decide +kernel)
set_option maxRecDepth 20000 in
theorem gX11_amounts_X5_spread : GoodIn wsX11_amounts (wsV RX11 208 RX5 yX5_spread wsX5_spread) := goodIn_app (goodIn_r _ [10, 11, 12, 13] rfl (by decide +kernel)) ggX11_amounts_X5_spread
set_option maxRecDepth 20000 in
theorem ggX11_amounts_X5_sumsAboveZero : GoodIn wsX11_amounts wsX5_sumsAboveZero := goodIn_r _ [27, 15, 28, 29, 30, 31, 32, 33, 34, 62, 63, 64, 65, 66] rfl (by decide +kernel)
set_option maxRecDepth 20000 in
theorem gX11_amounts_X5_sumsAboveZero : GoodIn wsX11_amounts (wsV RX11 212 RX5 yX5_sumsAboveZero wsX5_sumsAboveZero) := goodIn_app (goodIn_r _ [24, 25, 26, 13] rfl (by decide +kernel)) ggX11_amounts_X5_sumsAboveZero
set_option maxRecDepth 20000 in
theorem ggX11_amounts_X5_leastGap : GoodIn wsX11_amounts wsX5_leastGap := goodIn_r _ [38, 39, 40, 41, 13, 42, 15, 62, 63, 64, 65, 66] rfl (by decide +kernel)
set_option maxRecDepth 20000 in
theorem gX11_amounts_X5_leastGap : GoodIn wsX11_amounts (wsV RX11 215 RX5 yX5_leastGap wsX5_leastGap) := goodIn_app (goodIn_r _ [35, 36, 37, 13] rfl (by decide +kernel)) ggX11_amounts_X5_leastGap
theorem dX11_amounts_0 : decode cX11_amounts 0 = .ok (.iload_n 1, 1) := by decide +kernel
theorem dX11_amounts_1 : decode cX11_amounts 1 = .ok (.invokestatic 132, 3) := by decide +kernel
theorem dX11_amounts_4 : decode cX11_amounts 4 = .ok (.ifCond .eq 12, 3) := by decide +kernel
theorem dX11_amounts_7 : decode cX11_amounts 7 = .ok (.iload_n 2, 1) := by decide +kernel
theorem dX11_amounts_8 : decode cX11_amounts 8 = .ok (.iconst 0, 1) := by decide +kernel
theorem dX11_amounts_9 : decode cX11_amounts 9 = .ok (.iconst 1, 1) := by decide +kernel
theorem dX11_amounts_10 : decode cX11_amounts 10 = .ok (.invokestatic 108, 3) := by decide +kernel
theorem dX11_amounts_13 : decode cX11_amounts 13 = .ok (.ifCond .ne 5, 3) := by decide +kernel
theorem dX11_amounts_16 : decode cX11_amounts 16 = .ok (.iconst (-1), 1) := by decide +kernel
theorem dX11_amounts_17 : decode cX11_amounts 17 = .ok (.ireturn, 1) := by decide +kernel
theorem dX11_amounts_18 : decode cX11_amounts 18 = .ok (.aload_n 0, 1) := by decide +kernel
theorem dX11_amounts_19 : decode cX11_amounts 19 = .ok (.getfield 26, 3) := by decide +kernel
theorem dX11_amounts_22 : decode cX11_amounts 22 = .ok (.aload_n 0, 1) := by decide +kernel
theorem dX11_amounts_23 : decode cX11_amounts 23 = .ok (.getfield 12, 3) := by decide +kernel
theorem dX11_amounts_26 : decode cX11_amounts 26 = .ok (.aload_n 0, 1) := by decide +kernel
theorem dX11_amounts_27 : decode cX11_amounts 27 = .ok (.getfield 12, 3) := by decide +kernel
theorem dX11_amounts_30 : decode cX11_amounts 30 = .ok (.getfield 125, 3) := by decide +kernel
theorem dX11_amounts_33 : decode cX11_amounts 33 = .ok (.iload_n 1, 1) := by decide +kernel
theorem dX11_amounts_34 : decode cX11_amounts 34 = .ok (.invokevirtual 208, 3) := by decide +kernel
theorem dX11_amounts_37 : decode cX11_amounts 37 = .ok (.iload_n 2, 1) := by decide +kernel
theorem dX11_amounts_38 : decode cX11_amounts 38 = .ok (.ifCond .ne 13, 3) := by decide +kernel
theorem dX11_amounts_41 : decode cX11_amounts 41 = .ok (.aload_n 0, 1) := by decide +kernel
theorem dX11_amounts_42 : decode cX11_amounts 42 = .ok (.getfield 26, 3) := by decide +kernel
theorem dX11_amounts_45 : decode cX11_amounts 45 = .ok (.invokevirtual 212, 3) := by decide +kernel
theorem dX11_amounts_48 : decode cX11_amounts 48 = .ok (.goto 10, 3) := by decide +kernel
theorem dX11_amounts_51 : decode cX11_amounts 51 = .ok (.aload_n 0, 1) := by decide +kernel
theorem dX11_amounts_52 : decode cX11_amounts 52 = .ok (.getfield 26, 3) := by decide +kernel
theorem dX11_amounts_55 : decode cX11_amounts 55 = .ok (.invokevirtual 215, 3) := by decide +kernel
theorem dX11_amounts_58 : decode cX11_amounts 58 = .ok (.ireturn, 1) := by decide +kernel
set_option maxRecDepth 20000 in
theorem ggX11_spend_X11_isLand : GoodIn wsX11_spend wsX11_isLand := goodIn_r _ [7, 8, 9, 6, 10] rfl (by decide +kernel)
set_option maxRecDepth 20000 in
theorem gX11_spend_X11_isLand : GoodIn wsX11_spend (va_wsS RX11 132 yX11_isLand wsX11_isLand) := goodIn_app (goodIn_r _ [4, 5, 6] rfl (by decide +kernel)) ggX11_spend_X11_isLand
set_option maxRecDepth 20000 in
theorem ggX11_spend_X11_within : GoodIn wsX11_spend wsX11_within := goodIn_r _ [10] rfl (by decide +kernel)
set_option maxRecDepth 20000 in
theorem gX11_spend_X11_within : GoodIn wsX11_spend (va_wsS RX11 108 yX11_within wsX11_within) := goodIn_app (goodIn_r _ [8, 9, 6] rfl (by decide +kernel)) ggX11_spend_X11_within
set_option maxRecDepth 20000 in
theorem ggX11_spend_X1_worthOf : GoodIn wsX11_spend wsX1_worthOf := goodIn_r _ [15, 16, 17, 18, 19, 83, 84, 85, 86, 87, 88] rfl (by decide +kernel)
set_option maxRecDepth 20000 in
theorem gX11_spend_X1_worthOf : GoodIn wsX11_spend (wsV RX11 166 RX1 yX1_worthOf wsX1_worthOf) := goodIn_app (goodIn_r _ [11, 12, 13, 14] rfl (by decide +kernel)) ggX11_spend_X1_worthOf
set_option maxRecDepth 20000 in
theorem ggX11_spend_X5_spread : GoodIn wsX11_spend wsX5_spread := goodIn_r _ [24, 25, 26, 27, 28, 29, 30, 31, 32, 23, 33, 89, 90, 91, 92, 93, 83, 84, 85, 86, 87, 88] rfl (by decide +kernel)
set_option maxRecDepth 20000 in
theorem gX11_spend_X5_spread : GoodIn wsX11_spend (wsV RX11 208 RX5 yX5_spread wsX5_spread) := goodIn_app (goodIn_r _ [20, 21, 22, 23] rfl (by decide +kernel)) ggX11_spend_X5_spread
set_option maxRecDepth 20000 in
theorem ggX11_spend_X5_valueChoices : GoodIn wsX11_spend wsX5_valueChoices := goodIn_r _ [37, 38, 39, 40, 41, 28, 42, 43, 44, 45, 23, 46, 47, 48, 49, 50, 51, 52, 53, 89, 90, 91, 92, 93, 94, 95, 96, 97, 98] rfl (by decide +kernel)
set_option maxRecDepth 20000 in
theorem gX11_spend_X5_valueChoices : GoodIn wsX11_spend (wsV RX11 218 RX5 yX5_valueChoices wsX5_valueChoices) := goodIn_app (goodIn_r _ [34, 35, 36, 23] rfl (by decide +kernel)) ggX11_spend_X5_valueChoices
set_option maxRecDepth 20000 in
theorem ggX11_spend_X5_greatestChoice : GoodIn wsX11_spend wsX5_greatestChoice := goodIn_r _ [57, 47, 48, 49, 50, 38, 39, 58, 59, 60, 23, 61, 25, 89, 90, 91, 92, 93] rfl (by decide +kernel)
set_option maxRecDepth 20000 in
theorem gX11_spend_X5_greatestChoice : GoodIn wsX11_spend (wsV RX11 222 RX5 yX5_greatestChoice wsX5_greatestChoice) := goodIn_app (goodIn_r _ [54, 55, 56, 23] rfl (by decide +kernel)) ggX11_spend_X5_greatestChoice
set_option maxRecDepth 20000 in
theorem ggX11_spend_X5_dearestChoice : GoodIn wsX11_spend wsX5_dearestChoice := goodIn_r _ [65, 38, 58, 59, 60, 23, 61, 25, 89, 90, 91, 92, 93] rfl (by decide +kernel)
set_option maxRecDepth 20000 in
theorem gX11_spend_X5_dearestChoice : GoodIn wsX11_spend (wsV RX11 225 RX5 yX5_dearestChoice wsX5_dearestChoice) := goodIn_app (goodIn_r _ [62, 63, 64, 23] rfl (by decide +kernel)) ggX11_spend_X5_dearestChoice
set_option maxRecDepth 20000 in
theorem ggX11_spend_X5_valueAt : GoodIn wsX11_spend wsX5_valueAt := goodIn_r _ [69, 38, 9, 6, 10, 89, 90, 91, 92, 93] rfl (by decide +kernel)
set_option maxRecDepth 20000 in
theorem gX11_spend_X5_valueAt : GoodIn wsX11_spend (wsV RX11 228 RX5 yX5_valueAt wsX5_valueAt) := goodIn_app (goodIn_r _ [66, 67, 68, 23] rfl (by decide +kernel)) ggX11_spend_X5_valueAt
theorem dX11_spend_0 : decode cX11_spend 0 = .ok (.iload_n 1, 1) := by decide +kernel
theorem dX11_spend_1 : decode cX11_spend 1 = .ok (.invokestatic 132, 3) := by decide +kernel
theorem dX11_spend_4 : decode cX11_spend 4 = .ok (.ifCond .eq 21, 3) := by decide +kernel
theorem dX11_spend_7 : decode cX11_spend 7 = .ok (.iload_n 2, 1) := by decide +kernel
theorem dX11_spend_8 : decode cX11_spend 8 = .ok (.iconst 0, 1) := by decide +kernel
theorem dX11_spend_9 : decode cX11_spend 9 = .ok (.iconst 1, 1) := by decide +kernel
theorem dX11_spend_10 : decode cX11_spend 10 = .ok (.invokestatic 108, 3) := by decide +kernel
theorem dX11_spend_13 : decode cX11_spend 13 = .ok (.ifCond .eq 12, 3) := by decide +kernel
theorem dX11_spend_16 : decode cX11_spend 16 = .ok (.iload_n 3, 1) := by decide +kernel
theorem dX11_spend_17 : decode cX11_spend 17 = .ok (.iconst 0, 1) := by decide +kernel
theorem dX11_spend_18 : decode cX11_spend 18 = .ok (.iconst 2, 1) := by decide +kernel
theorem dX11_spend_19 : decode cX11_spend 19 = .ok (.invokestatic 108, 3) := by decide +kernel
theorem dX11_spend_22 : decode cX11_spend 22 = .ok (.ifCond .ne 5, 3) := by decide +kernel
theorem dX11_spend_25 : decode cX11_spend 25 = .ok (.iconst (-1), 1) := by decide +kernel
theorem dX11_spend_26 : decode cX11_spend 26 = .ok (.ireturn, 1) := by decide +kernel
theorem dX11_spend_27 : decode cX11_spend 27 = .ok (.aload_n 0, 1) := by decide +kernel
theorem dX11_spend_28 : decode cX11_spend 28 = .ok (.getfield 12, 3) := by decide +kernel
theorem dX11_spend_31 : decode cX11_spend 31 = .ok (.iload_n 1, 1) := by decide +kernel
theorem dX11_spend_32 : decode cX11_spend 32 = .ok (.invokevirtual 166, 3) := by decide +kernel
theorem dX11_spend_35 : decode cX11_spend 35 = .ok (.istore 4, 2) := by decide +kernel
theorem dX11_spend_37 : decode cX11_spend 37 = .ok (.aload_n 0, 1) := by decide +kernel
theorem dX11_spend_38 : decode cX11_spend 38 = .ok (.getfield 26, 3) := by decide +kernel
theorem dX11_spend_41 : decode cX11_spend 41 = .ok (.aload_n 0, 1) := by decide +kernel
theorem dX11_spend_42 : decode cX11_spend 42 = .ok (.getfield 12, 3) := by decide +kernel
theorem dX11_spend_45 : decode cX11_spend 45 = .ok (.aload_n 0, 1) := by decide +kernel
theorem dX11_spend_46 : decode cX11_spend 46 = .ok (.getfield 12, 3) := by decide +kernel
theorem dX11_spend_49 : decode cX11_spend 49 = .ok (.getfield 125, 3) := by decide +kernel
theorem dX11_spend_52 : decode cX11_spend 52 = .ok (.iload_n 1, 1) := by decide +kernel
theorem dX11_spend_53 : decode cX11_spend 53 = .ok (.invokevirtual 208, 3) := by decide +kernel
theorem dX11_spend_56 : decode cX11_spend 56 = .ok (.aload_n 0, 1) := by decide +kernel
theorem dX11_spend_57 : decode cX11_spend 57 = .ok (.getfield 26, 3) := by decide +kernel
theorem dX11_spend_60 : decode cX11_spend 60 = .ok (.aload_n 0, 1) := by decide +kernel
theorem dX11_spend_61 : decode cX11_spend 61 = .ok (.getfield 19, 3) := by decide +kernel
theorem dX11_spend_64 : decode cX11_spend 64 = .ok (.iload_n 1, 1) := by decide +kernel
theorem dX11_spend_65 : decode cX11_spend 65 = .ok (.iload 4, 2) := by decide +kernel
theorem dX11_spend_67 : decode cX11_spend 67 = .ok (.invokevirtual 218, 3) := by decide +kernel
theorem dX11_spend_70 : decode cX11_spend 70 = .ok (.iload_n 2, 1) := by decide +kernel
theorem dX11_spend_71 : decode cX11_spend 71 = .ok (.ifCond .ne 15, 3) := by decide +kernel
theorem dX11_spend_74 : decode cX11_spend 74 = .ok (.aload_n 0, 1) := by decide +kernel
theorem dX11_spend_75 : decode cX11_spend 75 = .ok (.getfield 26, 3) := by decide +kernel
theorem dX11_spend_78 : decode cX11_spend 78 = .ok (.iload 4, 2) := by decide +kernel
theorem dX11_spend_80 : decode cX11_spend 80 = .ok (.invokevirtual 222, 3) := by decide +kernel
theorem dX11_spend_83 : decode cX11_spend 83 = .ok (.goto 12, 3) := by decide +kernel
theorem dX11_spend_86 : decode cX11_spend 86 = .ok (.aload_n 0, 1) := by decide +kernel
theorem dX11_spend_87 : decode cX11_spend 87 = .ok (.getfield 26, 3) := by decide +kernel
theorem dX11_spend_90 : decode cX11_spend 90 = .ok (.iload 4, 2) := by decide +kernel
theorem dX11_spend_92 : decode cX11_spend 92 = .ok (.invokevirtual 225, 3) := by decide +kernel
theorem dX11_spend_95 : decode cX11_spend 95 = .ok (.istore 5, 2) := by decide +kernel
theorem dX11_spend_97 : decode cX11_spend 97 = .ok (.iload_n 3, 1) := by decide +kernel
theorem dX11_spend_98 : decode cX11_spend 98 = .ok (.ifCond .ne 9, 3) := by decide +kernel
theorem dX11_spend_101 : decode cX11_spend 101 = .ok (.iload 4, 2) := by decide +kernel
theorem dX11_spend_103 : decode cX11_spend 103 = .ok (.iload 5, 2) := by decide +kernel
theorem dX11_spend_105 : decode cX11_spend 105 = .ok (.isub, 1) := by decide +kernel
theorem dX11_spend_106 : decode cX11_spend 106 = .ok (.ireturn, 1) := by decide +kernel
theorem dX11_spend_107 : decode cX11_spend 107 = .ok (.iload_n 3, 1) := by decide +kernel
theorem dX11_spend_108 : decode cX11_spend 108 = .ok (.iconst 1, 1) := by decide +kernel
theorem dX11_spend_109 : decode cX11_spend 109 = .ok (.if_icmp .ne 15, 3) := by decide +kernel
theorem dX11_spend_112 : decode cX11_spend 112 = .ok (.aload_n 0, 1) := by decide +kernel
theorem dX11_spend_113 : decode cX11_spend 113 = .ok (.getfield 26, 3) := by decide +kernel
theorem dX11_spend_116 : decode cX11_spend 116 = .ok (.iload 5, 2) := by decide +kernel
theorem dX11_spend_118 : decode cX11_spend 118 = .ok (.invokevirtual 228, 3) := by decide +kernel
theorem dX11_spend_121 : decode cX11_spend 121 = .ok (.goto 5, 3) := by decide +kernel
theorem dX11_spend_124 : decode cX11_spend 124 = .ok (.iload 5, 2) := by decide +kernel
theorem dX11_spend_126 : decode cX11_spend 126 = .ok (.ireturn, 1) := by decide +kernel
set_option maxRecDepth 20000 in
theorem ggX11_buy_X9_knows : GoodIn wsX11_buy wsX9_knows := goodIn_r _ [10, 11, 97, 98, 99, 100, 101] rfl (by decide +kernel)
set_option maxRecDepth 20000 in
theorem gX11_buy_X9_knows : GoodIn wsX11_buy (wsV RX11 148 RX9 yX9_knows wsX9_knows) := goodIn_app (goodIn_r _ [6, 7, 8, 9] rfl (by decide +kernel)) ggX11_buy_X9_knows
set_option maxRecDepth 20000 in
theorem ggX11_buy_X5_spread : GoodIn wsX11_buy wsX5_spread := goodIn_r _ [16, 17, 18, 19, 20, 21, 22, 23, 24, 15, 25, 108, 109, 110, 111, 112, 102, 103, 104, 105, 106, 107] rfl (by decide +kernel)
set_option maxRecDepth 20000 in
theorem gX11_buy_X5_spread : GoodIn wsX11_buy (wsV RX11 208 RX5 yX5_spread wsX5_spread) := goodIn_app (goodIn_r _ [12, 13, 14, 15] rfl (by decide +kernel)) ggX11_buy_X5_spread
set_option maxRecDepth 20000 in
theorem ggX11_buy_X5_leastFrom : GoodIn wsX11_buy wsX5_leastFrom := goodIn_r _ [29, 30, 31, 32, 15, 33, 17, 108, 109, 110, 111, 112] rfl (by decide +kernel)
set_option maxRecDepth 20000 in
theorem gX11_buy_X5_leastFrom : GoodIn wsX11_buy (wsV RX11 240 RX5 yX5_leastFrom wsX5_leastFrom) := goodIn_app (goodIn_r _ [26, 27, 28, 15] rfl (by decide +kernel)) ggX11_buy_X5_leastFrom
set_option maxRecDepth 20000 in
theorem ggX11_buy_X5_pay : GoodIn wsX11_buy wsX5_pay := goodIn_r _ [37, 38, 39, 40, 41, 42, 43, 44, 45, 46, 20, 47, 48, 49, 50, 51, 52, 15, 53, 54, 55, 56, 57, 58, 59, 60, 61, 62, 63, 64, 65, 66, 108, 109, 110, 111, 112, 102, 103, 104, 105, 106, 107] rfl (by decide +kernel)
set_option maxRecDepth 20000 in
theorem gX11_buy_X5_pay : GoodIn wsX11_buy (wsV RX11 201 RX5 yX5_pay wsX5_pay) := goodIn_app (goodIn_r _ [34, 35, 36, 15] rfl (by decide +kernel)) ggX11_buy_X5_pay
set_option maxRecDepth 20000 in
theorem ggX11_buy_X1_takeOut : GoodIn wsX11_buy wsX1_takeOut := goodIn_r _ [71, 72, 73, 102, 103, 104, 105, 106, 107] rfl (by decide +kernel)
set_option maxRecDepth 20000 in
theorem gX11_buy_X1_takeOut : GoodIn wsX11_buy (wsV RX11 243 RX1 yX1_takeOut wsX1_takeOut) := goodIn_app (goodIn_r _ [67, 68, 69, 70] rfl (by decide +kernel)) ggX11_buy_X1_takeOut
set_option maxRecDepth 20000 in
theorem ggX11_buy_X1_bringBack : GoodIn wsX11_buy wsX1_bringBack := goodIn_r _ [77, 73, 78, 79, 80, 81, 70, 82, 72, 83, 102, 103, 104, 105, 106, 107] rfl (by decide +kernel)
set_option maxRecDepth 20000 in
theorem gX11_buy_X1_bringBack : GoodIn wsX11_buy (wsV RX11 247 RX1 yX1_bringBack wsX1_bringBack) := goodIn_app (goodIn_r _ [74, 75, 76, 70] rfl (by decide +kernel)) ggX11_buy_X1_bringBack
theorem dX11_buy_0 : decode cX11_buy 0 = .ok (.aload_n 0, 1) := by decide +kernel
theorem dX11_buy_1 : decode cX11_buy 1 = .ok (.getfield 19, 3) := by decide +kernel
theorem dX11_buy_4 : decode cX11_buy 4 = .ok (.iload_n 1, 1) := by decide +kernel
theorem dX11_buy_5 : decode cX11_buy 5 = .ok (.invokevirtual 148, 3) := by decide +kernel
theorem dX11_buy_8 : decode cX11_buy 8 = .ok (.ifCond .ne 5, 3) := by decide +kernel
theorem dX11_buy_11 : decode cX11_buy 11 = .ok (.iconst (-1), 1) := by decide +kernel
theorem dX11_buy_12 : decode cX11_buy 12 = .ok (.ireturn, 1) := by decide +kernel
theorem dX11_buy_13 : decode cX11_buy 13 = .ok (.aload_n 0, 1) := by decide +kernel
theorem dX11_buy_14 : decode cX11_buy 14 = .ok (.getfield 19, 3) := by decide +kernel
theorem dX11_buy_17 : decode cX11_buy 17 = .ok (.getfield 231, 3) := by decide +kernel
theorem dX11_buy_20 : decode cX11_buy 20 = .ok (.iload_n 1, 1) := by decide +kernel
theorem dX11_buy_21 : decode cX11_buy 21 = .ok (.iaload, 1) := by decide +kernel
theorem dX11_buy_22 : decode cX11_buy 22 = .ok (.ifCond .ne 6, 3) := by decide +kernel
theorem dX11_buy_25 : decode cX11_buy 25 = .ok (.bipush (-5), 2) := by decide +kernel
theorem dX11_buy_27 : decode cX11_buy 27 = .ok (.ireturn, 1) := by decide +kernel
theorem dX11_buy_28 : decode cX11_buy 28 = .ok (.aload_n 0, 1) := by decide +kernel
theorem dX11_buy_29 : decode cX11_buy 29 = .ok (.getfield 19, 3) := by decide +kernel
theorem dX11_buy_32 : decode cX11_buy 32 = .ok (.getfield 234, 3) := by decide +kernel
theorem dX11_buy_35 : decode cX11_buy 35 = .ok (.iload_n 1, 1) := by decide +kernel
theorem dX11_buy_36 : decode cX11_buy 36 = .ok (.iaload, 1) := by decide +kernel
theorem dX11_buy_37 : decode cX11_buy 37 = .ok (.istore_n 2, 1) := by decide +kernel
theorem dX11_buy_38 : decode cX11_buy 38 = .ok (.aload_n 0, 1) := by decide +kernel
theorem dX11_buy_39 : decode cX11_buy 39 = .ok (.getfield 19, 3) := by decide +kernel
theorem dX11_buy_42 : decode cX11_buy 42 = .ok (.getfield 237, 3) := by decide +kernel
theorem dX11_buy_45 : decode cX11_buy 45 = .ok (.iload_n 1, 1) := by decide +kernel
theorem dX11_buy_46 : decode cX11_buy 46 = .ok (.iaload, 1) := by decide +kernel
theorem dX11_buy_47 : decode cX11_buy 47 = .ok (.istore_n 3, 1) := by decide +kernel
theorem dX11_buy_48 : decode cX11_buy 48 = .ok (.aload_n 0, 1) := by decide +kernel
theorem dX11_buy_49 : decode cX11_buy 49 = .ok (.getfield 85, 3) := by decide +kernel
theorem dX11_buy_52 : decode cX11_buy 52 = .ok (.iload_n 2, 1) := by decide +kernel
theorem dX11_buy_53 : decode cX11_buy 53 = .ok (.iaload, 1) := by decide +kernel
theorem dX11_buy_54 : decode cX11_buy 54 = .ok (.istore 4, 2) := by decide +kernel
theorem dX11_buy_56 : decode cX11_buy 56 = .ok (.aload_n 0, 1) := by decide +kernel
theorem dX11_buy_57 : decode cX11_buy 57 = .ok (.getfield 26, 3) := by decide +kernel
theorem dX11_buy_60 : decode cX11_buy 60 = .ok (.aload_n 0, 1) := by decide +kernel
theorem dX11_buy_61 : decode cX11_buy 61 = .ok (.getfield 12, 3) := by decide +kernel
theorem dX11_buy_64 : decode cX11_buy 64 = .ok (.aload_n 0, 1) := by decide +kernel
theorem dX11_buy_65 : decode cX11_buy 65 = .ok (.getfield 12, 3) := by decide +kernel
theorem dX11_buy_68 : decode cX11_buy 68 = .ok (.getfield 125, 3) := by decide +kernel
theorem dX11_buy_71 : decode cX11_buy 71 = .ok (.iload_n 2, 1) := by decide +kernel
theorem dX11_buy_72 : decode cX11_buy 72 = .ok (.invokevirtual 208, 3) := by decide +kernel
theorem dX11_buy_75 : decode cX11_buy 75 = .ok (.iload 4, 2) := by decide +kernel
theorem dX11_buy_77 : decode cX11_buy 77 = .ok (.ifCond .ne 7, 3) := by decide +kernel
theorem dX11_buy_80 : decode cX11_buy 80 = .ok (.iload_n 3, 1) := by decide +kernel
theorem dX11_buy_81 : decode cX11_buy 81 = .ok (.goto 11, 3) := by decide +kernel
theorem dX11_buy_84 : decode cX11_buy 84 = .ok (.aload_n 0, 1) := by decide +kernel
theorem dX11_buy_85 : decode cX11_buy 85 = .ok (.getfield 26, 3) := by decide +kernel
theorem dX11_buy_88 : decode cX11_buy 88 = .ok (.iload_n 3, 1) := by decide +kernel
theorem dX11_buy_89 : decode cX11_buy 89 = .ok (.invokevirtual 240, 3) := by decide +kernel
theorem dX11_buy_92 : decode cX11_buy 92 = .ok (.istore 5, 2) := by decide +kernel
theorem dX11_buy_94 : decode cX11_buy 94 = .ok (.iload 5, 2) := by decide +kernel
theorem dX11_buy_96 : decode cX11_buy 96 = .ok (.ifCond .lt 21, 3) := by decide +kernel
theorem dX11_buy_99 : decode cX11_buy 99 = .ok (.aload_n 0, 1) := by decide +kernel
theorem dX11_buy_100 : decode cX11_buy 100 = .ok (.getfield 26, 3) := by decide +kernel
theorem dX11_buy_103 : decode cX11_buy 103 = .ok (.aload_n 0, 1) := by decide +kernel
theorem dX11_buy_104 : decode cX11_buy 104 = .ok (.getfield 12, 3) := by decide +kernel
theorem dX11_buy_107 : decode cX11_buy 107 = .ok (.iload_n 2, 1) := by decide +kernel
theorem dX11_buy_108 : decode cX11_buy 108 = .ok (.iload 5, 2) := by decide +kernel
theorem dX11_buy_110 : decode cX11_buy 110 = .ok (.iconst 1, 1) := by decide +kernel
theorem dX11_buy_111 : decode cX11_buy 111 = .ok (.invokevirtual 201, 3) := by decide +kernel
theorem dX11_buy_114 : decode cX11_buy 114 = .ok (.ifCond .ge 6, 3) := by decide +kernel
theorem dX11_buy_117 : decode cX11_buy 117 = .ok (.bipush (-2), 2) := by decide +kernel
theorem dX11_buy_119 : decode cX11_buy 119 = .ok (.ireturn, 1) := by decide +kernel
theorem dX11_buy_120 : decode cX11_buy 120 = .ok (.aload_n 0, 1) := by decide +kernel
theorem dX11_buy_121 : decode cX11_buy 121 = .ok (.getfield 12, 3) := by decide +kernel
theorem dX11_buy_124 : decode cX11_buy 124 = .ok (.aload_n 0, 1) := by decide +kernel
theorem dX11_buy_125 : decode cX11_buy 125 = .ok (.getfield 26, 3) := by decide +kernel
theorem dX11_buy_128 : decode cX11_buy 128 = .ok (.getfield 205, 3) := by decide +kernel
theorem dX11_buy_131 : decode cX11_buy 131 = .ok (.invokevirtual 243, 3) := by decide +kernel
theorem dX11_buy_134 : decode cX11_buy 134 = .ok (.aload_n 0, 1) := by decide +kernel
theorem dX11_buy_135 : decode cX11_buy 135 = .ok (.getfield 19, 3) := by decide +kernel
theorem dX11_buy_138 : decode cX11_buy 138 = .ok (.getfield 231, 3) := by decide +kernel
theorem dX11_buy_141 : decode cX11_buy 141 = .ok (.iload_n 1, 1) := by decide +kernel
theorem dX11_buy_142 : decode cX11_buy 142 = .ok (.dup2, 1) := by decide +kernel
theorem dX11_buy_143 : decode cX11_buy 143 = .ok (.iaload, 1) := by decide +kernel
theorem dX11_buy_144 : decode cX11_buy 144 = .ok (.iconst 1, 1) := by decide +kernel
theorem dX11_buy_145 : decode cX11_buy 145 = .ok (.isub, 1) := by decide +kernel
theorem dX11_buy_146 : decode cX11_buy 146 = .ok (.iastore, 1) := by decide +kernel
theorem dX11_buy_147 : decode cX11_buy 147 = .ok (.iload 5, 2) := by decide +kernel
theorem dX11_buy_149 : decode cX11_buy 149 = .ok (.iload_n 3, 1) := by decide +kernel
theorem dX11_buy_150 : decode cX11_buy 150 = .ok (.isub, 1) := by decide +kernel
theorem dX11_buy_151 : decode cX11_buy 151 = .ok (.istore 6, 2) := by decide +kernel
theorem dX11_buy_153 : decode cX11_buy 153 = .ok (.iload 4, 2) := by decide +kernel
theorem dX11_buy_155 : decode cX11_buy 155 = .ok (.iconst 2, 1) := by decide +kernel
theorem dX11_buy_156 : decode cX11_buy 156 = .ok (.if_icmp .ne 16, 3) := by decide +kernel
theorem dX11_buy_159 : decode cX11_buy 159 = .ok (.aload_n 0, 1) := by decide +kernel
theorem dX11_buy_160 : decode cX11_buy 160 = .ok (.getfield 12, 3) := by decide +kernel
theorem dX11_buy_163 : decode cX11_buy 163 = .ok (.iload_n 2, 1) := by decide +kernel
theorem dX11_buy_164 : decode cX11_buy 164 = .ok (.iload 6, 2) := by decide +kernel
theorem dX11_buy_166 : decode cX11_buy 166 = .ok (.invokevirtual 247, 3) := by decide +kernel
theorem dX11_buy_169 : decode cX11_buy 169 = .ok (.goto 4, 3) := by decide +kernel
theorem dX11_buy_172 : decode cX11_buy 172 = .ok (.iconst 0, 1) := by decide +kernel
theorem dX11_buy_173 : decode cX11_buy 173 = .ok (.istore 7, 2) := by decide +kernel
theorem dX11_buy_175 : decode cX11_buy 175 = .ok (.aload_n 0, 1) := by decide +kernel
theorem dX11_buy_176 : decode cX11_buy 176 = .ok (.getfield 89, 3) := by decide +kernel
theorem dX11_buy_179 : decode cX11_buy 179 = .ok (.iconst 0, 1) := by decide +kernel
theorem dX11_buy_180 : decode cX11_buy 180 = .ok (.dup2, 1) := by decide +kernel
theorem dX11_buy_181 : decode cX11_buy 181 = .ok (.iaload, 1) := by decide +kernel
theorem dX11_buy_182 : decode cX11_buy 182 = .ok (.iload 6, 2) := by decide +kernel
theorem dX11_buy_184 : decode cX11_buy 184 = .ok (.iload 7, 2) := by decide +kernel
theorem dX11_buy_186 : decode cX11_buy 186 = .ok (.isub, 1) := by decide +kernel
theorem dX11_buy_187 : decode cX11_buy 187 = .ok (.iadd, 1) := by decide +kernel
theorem dX11_buy_188 : decode cX11_buy 188 = .ok (.iastore, 1) := by decide +kernel
theorem dX11_buy_189 : decode cX11_buy 189 = .ok (.aload_n 0, 1) := by decide +kernel
theorem dX11_buy_190 : decode cX11_buy 190 = .ok (.getfield 89, 3) := by decide +kernel
theorem dX11_buy_193 : decode cX11_buy 193 = .ok (.iconst 1, 1) := by decide +kernel
theorem dX11_buy_194 : decode cX11_buy 194 = .ok (.dup2, 1) := by decide +kernel
theorem dX11_buy_195 : decode cX11_buy 195 = .ok (.iaload, 1) := by decide +kernel
theorem dX11_buy_196 : decode cX11_buy 196 = .ok (.iload 5, 2) := by decide +kernel
theorem dX11_buy_198 : decode cX11_buy 198 = .ok (.iload 7, 2) := by decide +kernel
theorem dX11_buy_200 : decode cX11_buy 200 = .ok (.isub, 1) := by decide +kernel
theorem dX11_buy_201 : decode cX11_buy 201 = .ok (.iadd, 1) := by decide +kernel
theorem dX11_buy_202 : decode cX11_buy 202 = .ok (.iastore, 1) := by decide +kernel
theorem dX11_buy_203 : decode cX11_buy 203 = .ok (.iload 5, 2) := by decide +kernel
theorem dX11_buy_205 : decode cX11_buy 205 = .ok (.iload 7, 2) := by decide +kernel
theorem dX11_buy_207 : decode cX11_buy 207 = .ok (.isub, 1) := by decide +kernel
theorem dX11_buy_208 : decode cX11_buy 208 = .ok (.ireturn, 1) := by decide +kernel
set_option maxRecDepth 20000 in
theorem ggX11_like_X1_knows : GoodIn wsX11_like wsX1_knows := goodIn_r _ [6, 7, 35, 36, 37, 38, 39, 40] rfl (by decide +kernel)
set_option maxRecDepth 20000 in
theorem gX11_like_X1_knows : GoodIn wsX11_like (wsV RX11 122 RX1 yX1_knows wsX1_knows) := goodIn_app (goodIn_r _ [2, 3, 4, 5] rfl (by decide +kernel)) ggX11_like_X1_knows
set_option maxRecDepth 20000 in
theorem ggX11_like_X11_within : GoodIn wsX11_like wsX11_within := goodIn_r _ [11] rfl (by decide +kernel)
set_option maxRecDepth 20000 in
theorem gX11_like_X11_within : GoodIn wsX11_like (va_wsS RX11 108 yX11_within wsX11_within) := goodIn_app (goodIn_r _ [8, 9, 10] rfl (by decide +kernel)) ggX11_like_X11_within
set_option maxRecDepth 20000 in
theorem ggX11_like_X1_alike : GoodIn wsX11_like wsX1_alike := goodIn_r _ [15, 7, 16, 17, 18, 19, 20, 21, 35, 36, 37, 38, 39, 40] rfl (by decide +kernel)
set_option maxRecDepth 20000 in
theorem gX11_like_X1_alike : GoodIn wsX11_like (wsV RX11 250 RX1 yX1_alike wsX1_alike) := goodIn_app (goodIn_r _ [12, 13, 14, 5] rfl (by decide +kernel)) ggX11_like_X1_alike
theorem dX11_like_0 : decode cX11_like 0 = .ok (.aload_n 0, 1) := by decide +kernel
theorem dX11_like_1 : decode cX11_like 1 = .ok (.getfield 12, 3) := by decide +kernel
theorem dX11_like_4 : decode cX11_like 4 = .ok (.iload_n 1, 1) := by decide +kernel
theorem dX11_like_5 : decode cX11_like 5 = .ok (.invokevirtual 122, 3) := by decide +kernel
theorem dX11_like_8 : decode cX11_like 8 = .ok (.ifCond .eq 25, 3) := by decide +kernel
theorem dX11_like_11 : decode cX11_like 11 = .ok (.iload_n 2, 1) := by decide +kernel
theorem dX11_like_12 : decode cX11_like 12 = .ok (.iconst 0, 1) := by decide +kernel
theorem dX11_like_13 : decode cX11_like 13 = .ok (.bipush 99, 2) := by decide +kernel
theorem dX11_like_15 : decode cX11_like 15 = .ok (.invokestatic 108, 3) := by decide +kernel
theorem dX11_like_18 : decode cX11_like 18 = .ok (.ifCond .eq 15, 3) := by decide +kernel
theorem dX11_like_21 : decode cX11_like 21 = .ok (.aload_n 0, 1) := by decide +kernel
theorem dX11_like_22 : decode cX11_like 22 = .ok (.getfield 12, 3) := by decide +kernel
theorem dX11_like_25 : decode cX11_like 25 = .ok (.iload_n 1, 1) := by decide +kernel
theorem dX11_like_26 : decode cX11_like 26 = .ok (.iload_n 2, 1) := by decide +kernel
theorem dX11_like_27 : decode cX11_like 27 = .ok (.invokevirtual 250, 3) := by decide +kernel
theorem dX11_like_30 : decode cX11_like 30 = .ok (.goto 4, 3) := by decide +kernel
theorem dX11_like_33 : decode cX11_like 33 = .ok (.iconst (-1), 1) := by decide +kernel
theorem dX11_like_34 : decode cX11_like 34 = .ok (.ireturn, 1) := by decide +kernel
set_option maxRecDepth 20000 in
theorem ggX11_standIn_X1_knows : GoodIn wsX11_standIn wsX1_knows := goodIn_r _ [8, 9, 78, 79, 80, 81, 82, 83] rfl (by decide +kernel)
set_option maxRecDepth 20000 in
theorem gX11_standIn_X1_knows : GoodIn wsX11_standIn (wsV RX11 122 RX1 yX1_knows wsX1_knows) := goodIn_app (goodIn_r _ [4, 5, 6, 7] rfl (by decide +kernel)) ggX11_standIn_X1_knows
set_option maxRecDepth 20000 in
theorem ggX11_standIn_X11_within : GoodIn wsX11_standIn wsX11_within := goodIn_r _ [13] rfl (by decide +kernel)
set_option maxRecDepth 20000 in
theorem gX11_standIn_X11_within : GoodIn wsX11_standIn (va_wsS RX11 108 yX11_within wsX11_within) := goodIn_app (goodIn_r _ [10, 11, 12] rfl (by decide +kernel)) ggX11_standIn_X11_within
set_option maxRecDepth 20000 in
theorem ggX11_standIn_X11_isDay : GoodIn wsX11_standIn wsX11_isDay := goodIn_r _ [16, 10, 11, 12, 13] rfl (by decide +kernel)
set_option maxRecDepth 20000 in
theorem gX11_standIn_X11_isDay : GoodIn wsX11_standIn (va_wsS RX11 191 yX11_isDay wsX11_isDay) := goodIn_app (goodIn_r _ [14, 15, 12] rfl (by decide +kernel)) ggX11_standIn_X11_isDay
set_option maxRecDepth 20000 in
theorem ggX11_standIn_X1_alike : GoodIn wsX11_standIn wsX1_alike := goodIn_r _ [20, 9, 21, 22, 23, 24, 25, 26, 78, 79, 80, 81, 82, 83] rfl (by decide +kernel)
set_option maxRecDepth 20000 in
theorem gX11_standIn_X1_alike : GoodIn wsX11_standIn (wsV RX11 250 RX1 yX1_alike wsX1_alike) := goodIn_app (goodIn_r _ [17, 18, 19, 7] rfl (by decide +kernel)) ggX11_standIn_X1_alike
set_option maxRecDepth 20000 in
theorem ggX11_standIn_X10_exchanged : GoodIn wsX11_standIn wsX10_exchanged := goodIn_r _ [31, 32, 33, 34, 35, 30, 36, 37, 38, 39, 40, 41, 42, 43, 44, 45, 46, 47, 48, 49, 50, 51, 52, 53, 54, 55, 56, 57, 12, 58, 59, 60, 24, 61, 62, 63, 64, 84, 85, 86, 87, 88, 89, 90, 91, 92, 93, 94] rfl (by decide +kernel)
set_option maxRecDepth 20000 in
theorem gX11_standIn_X10_exchanged : GoodIn wsX11_standIn (wsV RX11 258 RX10 yX10_exchanged wsX10_exchanged) := goodIn_app (goodIn_r _ [27, 28, 29, 30] rfl (by decide +kernel)) ggX11_standIn_X10_exchanged
theorem dX11_standIn_0 : decode cX11_standIn 0 = .ok (.aload_n 0, 1) := by decide +kernel
theorem dX11_standIn_1 : decode cX11_standIn 1 = .ok (.getfield 12, 3) := by decide +kernel
theorem dX11_standIn_4 : decode cX11_standIn 4 = .ok (.iload_n 1, 1) := by decide +kernel
theorem dX11_standIn_5 : decode cX11_standIn 5 = .ok (.invokevirtual 122, 3) := by decide +kernel
theorem dX11_standIn_8 : decode cX11_standIn 8 = .ok (.ifCond .eq 30, 3) := by decide +kernel
theorem dX11_standIn_11 : decode cX11_standIn 11 = .ok (.iload_n 2, 1) := by decide +kernel
theorem dX11_standIn_12 : decode cX11_standIn 12 = .ok (.iconst 0, 1) := by decide +kernel
theorem dX11_standIn_13 : decode cX11_standIn 13 = .ok (.bipush 99, 2) := by decide +kernel
theorem dX11_standIn_15 : decode cX11_standIn 15 = .ok (.invokestatic 108, 3) := by decide +kernel
theorem dX11_standIn_18 : decode cX11_standIn 18 = .ok (.ifCond .eq 20, 3) := by decide +kernel
theorem dX11_standIn_21 : decode cX11_standIn 21 = .ok (.iload_n 3, 1) := by decide +kernel
theorem dX11_standIn_22 : decode cX11_standIn 22 = .ok (.invokestatic 191, 3) := by decide +kernel
theorem dX11_standIn_25 : decode cX11_standIn 25 = .ok (.ifCond .eq 13, 3) := by decide +kernel
theorem dX11_standIn_28 : decode cX11_standIn 28 = .ok (.iload 4, 2) := by decide +kernel
theorem dX11_standIn_30 : decode cX11_standIn 30 = .ok (.iconst 0, 1) := by decide +kernel
theorem dX11_standIn_31 : decode cX11_standIn 31 = .ok (.iconst 1, 1) := by decide +kernel
theorem dX11_standIn_32 : decode cX11_standIn 32 = .ok (.invokestatic 108, 3) := by decide +kernel
theorem dX11_standIn_35 : decode cX11_standIn 35 = .ok (.ifCond .ne 6, 3) := by decide +kernel
theorem dX11_standIn_38 : decode cX11_standIn 38 = .ok (.ldc 253, 2) := by decide +kernel
theorem dX11_standIn_40 : decode cX11_standIn 40 = .ok (.ireturn, 1) := by decide +kernel
theorem dX11_standIn_41 : decode cX11_standIn 41 = .ok (.aload_n 0, 1) := by decide +kernel
theorem dX11_standIn_42 : decode cX11_standIn 42 = .ok (.getfield 12, 3) := by decide +kernel
theorem dX11_standIn_45 : decode cX11_standIn 45 = .ok (.iload_n 1, 1) := by decide +kernel
theorem dX11_standIn_46 : decode cX11_standIn 46 = .ok (.iload_n 2, 1) := by decide +kernel
theorem dX11_standIn_47 : decode cX11_standIn 47 = .ok (.invokevirtual 250, 3) := by decide +kernel
theorem dX11_standIn_50 : decode cX11_standIn 50 = .ok (.istore 5, 2) := by decide +kernel
theorem dX11_standIn_52 : decode cX11_standIn 52 = .ok (.iconst (-1), 1) := by decide +kernel
theorem dX11_standIn_53 : decode cX11_standIn 53 = .ok (.istore 6, 2) := by decide +kernel
theorem dX11_standIn_55 : decode cX11_standIn 55 = .ok (.iconst 0, 1) := by decide +kernel
theorem dX11_standIn_56 : decode cX11_standIn 56 = .ok (.istore 7, 2) := by decide +kernel
theorem dX11_standIn_58 : decode cX11_standIn 58 = .ok (.iconst 0, 1) := by decide +kernel
theorem dX11_standIn_59 : decode cX11_standIn 59 = .ok (.istore 8, 2) := by decide +kernel
theorem dX11_standIn_61 : decode cX11_standIn 61 = .ok (.iload 8, 2) := by decide +kernel
theorem dX11_standIn_63 : decode cX11_standIn 63 = .ok (.aload_n 0, 1) := by decide +kernel
theorem dX11_standIn_64 : decode cX11_standIn 64 = .ok (.getfield 12, 3) := by decide +kernel
theorem dX11_standIn_67 : decode cX11_standIn 67 = .ok (.getfield 100, 3) := by decide +kernel
theorem dX11_standIn_70 : decode cX11_standIn 70 = .ok (.if_icmp .ge 87, 3) := by decide +kernel
theorem dX11_standIn_73 : decode cX11_standIn 73 = .ok (.iload 8, 2) := by decide +kernel
theorem dX11_standIn_75 : decode cX11_standIn 75 = .ok (.iload_n 1, 1) := by decide +kernel
theorem dX11_standIn_76 : decode cX11_standIn 76 = .ok (.if_icmp .eq 75, 3) := by decide +kernel
theorem dX11_standIn_79 : decode cX11_standIn 79 = .ok (.iload 5, 2) := by decide +kernel
theorem dX11_standIn_81 : decode cX11_standIn 81 = .ok (.iload 8, 2) := by decide +kernel
theorem dX11_standIn_83 : decode cX11_standIn 83 = .ok (.ishr, 1) := by decide +kernel
theorem dX11_standIn_84 : decode cX11_standIn 84 = .ok (.iconst 1, 1) := by decide +kernel
theorem dX11_standIn_85 : decode cX11_standIn 85 = .ok (.iand, 1) := by decide +kernel
theorem dX11_standIn_86 : decode cX11_standIn 86 = .ok (.ifCond .ne 6, 3) := by decide +kernel
theorem dX11_standIn_89 : decode cX11_standIn 89 = .ok (.goto 62, 3) := by decide +kernel
theorem dX11_standIn_92 : decode cX11_standIn 92 = .ok (.aload_n 0, 1) := by decide +kernel
theorem dX11_standIn_93 : decode cX11_standIn 93 = .ok (.getfield 40, 3) := by decide +kernel
theorem dX11_standIn_96 : decode cX11_standIn 96 = .ok (.aload_n 0, 1) := by decide +kernel
theorem dX11_standIn_97 : decode cX11_standIn 97 = .ok (.getfield 12, 3) := by decide +kernel
theorem dX11_standIn_100 : decode cX11_standIn 100 = .ok (.getfield 254, 3) := by decide +kernel
theorem dX11_standIn_103 : decode cX11_standIn 103 = .ok (.iload 8, 2) := by decide +kernel
theorem dX11_standIn_105 : decode cX11_standIn 105 = .ok (.iaload, 1) := by decide +kernel
theorem dX11_standIn_106 : decode cX11_standIn 106 = .ok (.aload_n 0, 1) := by decide +kernel
theorem dX11_standIn_107 : decode cX11_standIn 107 = .ok (.getfield 12, 3) := by decide +kernel
theorem dX11_standIn_110 : decode cX11_standIn 110 = .ok (.getfield 257, 3) := by decide +kernel
theorem dX11_standIn_113 : decode cX11_standIn 113 = .ok (.iload 8, 2) := by decide +kernel
theorem dX11_standIn_115 : decode cX11_standIn 115 = .ok (.iaload, 1) := by decide +kernel
theorem dX11_standIn_116 : decode cX11_standIn 116 = .ok (.aload_n 0, 1) := by decide +kernel
theorem dX11_standIn_117 : decode cX11_standIn 117 = .ok (.getfield 12, 3) := by decide +kernel
theorem dX11_standIn_120 : decode cX11_standIn 120 = .ok (.getfield 257, 3) := by decide +kernel
theorem dX11_standIn_123 : decode cX11_standIn 123 = .ok (.iload_n 1, 1) := by decide +kernel
theorem dX11_standIn_124 : decode cX11_standIn 124 = .ok (.iaload, 1) := by decide +kernel
theorem dX11_standIn_125 : decode cX11_standIn 125 = .ok (.iload_n 3, 1) := by decide +kernel
theorem dX11_standIn_126 : decode cX11_standIn 126 = .ok (.invokevirtual 258, 3) := by decide +kernel
theorem dX11_standIn_129 : decode cX11_standIn 129 = .ok (.istore 9, 2) := by decide +kernel
theorem dX11_standIn_131 : decode cX11_standIn 131 = .ok (.iload 6, 2) := by decide +kernel
theorem dX11_standIn_133 : decode cX11_standIn 133 = .ok (.ifCond .lt 10, 3) := by decide +kernel
theorem dX11_standIn_136 : decode cX11_standIn 136 = .ok (.iload 9, 2) := by decide +kernel
theorem dX11_standIn_138 : decode cX11_standIn 138 = .ok (.iload 7, 2) := by decide +kernel
theorem dX11_standIn_140 : decode cX11_standIn 140 = .ok (.if_icmp .ge 11, 3) := by decide +kernel
theorem dX11_standIn_143 : decode cX11_standIn 143 = .ok (.iload 8, 2) := by decide +kernel
theorem dX11_standIn_145 : decode cX11_standIn 145 = .ok (.istore 6, 2) := by decide +kernel
theorem dX11_standIn_147 : decode cX11_standIn 147 = .ok (.iload 9, 2) := by decide +kernel
theorem dX11_standIn_149 : decode cX11_standIn 149 = .ok (.istore 7, 2) := by decide +kernel
theorem dX11_standIn_151 : decode cX11_standIn 151 = .ok (.iinc 8 1, 3) := by decide +kernel
theorem dX11_standIn_154 : decode cX11_standIn 154 = .ok (.goto (-93), 3) := by decide +kernel
theorem dX11_standIn_157 : decode cX11_standIn 157 = .ok (.iload 4, 2) := by decide +kernel
theorem dX11_standIn_159 : decode cX11_standIn 159 = .ok (.ifCond .eq 8, 3) := by decide +kernel
theorem dX11_standIn_162 : decode cX11_standIn 162 = .ok (.iload 6, 2) := by decide +kernel
theorem dX11_standIn_164 : decode cX11_standIn 164 = .ok (.ifCond .ge 8, 3) := by decide +kernel
theorem dX11_standIn_167 : decode cX11_standIn 167 = .ok (.iload 6, 2) := by decide +kernel
theorem dX11_standIn_169 : decode cX11_standIn 169 = .ok (.goto 15, 3) := by decide +kernel
theorem dX11_standIn_172 : decode cX11_standIn 172 = .ok (.aload_n 0, 1) := by decide +kernel
theorem dX11_standIn_173 : decode cX11_standIn 173 = .ok (.getfield 12, 3) := by decide +kernel
theorem dX11_standIn_176 : decode cX11_standIn 176 = .ok (.getfield 254, 3) := by decide +kernel
theorem dX11_standIn_179 : decode cX11_standIn 179 = .ok (.iload_n 1, 1) := by decide +kernel
theorem dX11_standIn_180 : decode cX11_standIn 180 = .ok (.iaload, 1) := by decide +kernel
theorem dX11_standIn_181 : decode cX11_standIn 181 = .ok (.iload 7, 2) := by decide +kernel
theorem dX11_standIn_183 : decode cX11_standIn 183 = .ok (.isub, 1) := by decide +kernel
theorem dX11_standIn_184 : decode cX11_standIn 184 = .ok (.ireturn, 1) := by decide +kernel
set_option maxRecDepth 20000 in
theorem ggX11_change_X11_within : GoodIn wsX11_change wsX11_within := goodIn_r _ [5] rfl (by decide +kernel)
set_option maxRecDepth 20000 in
theorem gX11_change_X11_within : GoodIn wsX11_change (va_wsS RX11 108 yX11_within wsX11_within) := goodIn_app (goodIn_r _ [2, 3, 4] rfl (by decide +kernel)) ggX11_change_X11_within
set_option maxRecDepth 20000 in
theorem ggX11_change_X11_isChange : GoodIn wsX11_change wsX11_isChange := goodIn_r _ [8, 9, 10, 4, 11, 12, 13, 14, 2, 3, 5] rfl (by decide +kernel)
set_option maxRecDepth 20000 in
theorem gX11_change_X11_isChange : GoodIn wsX11_change (va_wsS RX11 262 yX11_isChange wsX11_isChange) := goodIn_app (goodIn_r _ [6, 7, 4] rfl (by decide +kernel)) ggX11_change_X11_isChange
set_option maxRecDepth 20000 in
theorem ggX11_change_X11_isDay : GoodIn wsX11_change wsX11_isDay := goodIn_r _ [17, 2, 3, 4, 5] rfl (by decide +kernel)
set_option maxRecDepth 20000 in
theorem gX11_change_X11_isDay : GoodIn wsX11_change (va_wsS RX11 191 yX11_isDay wsX11_isDay) := goodIn_app (goodIn_r _ [15, 16, 4] rfl (by decide +kernel)) ggX11_change_X11_isDay
set_option maxRecDepth 20000 in
theorem ggX11_change_X10_changed : GoodIn wsX11_change wsX10_changed := goodIn_r _ [22, 23, 24, 25, 26, 27, 28, 29, 30, 31, 32, 33, 34, 21, 35, 36, 37, 38, 39, 40, 41, 42, 43, 44, 45, 46, 47, 48, 49, 50, 51, 52, 53, 54, 55, 56, 4, 57, 58, 59, 60, 61, 62, 63, 77, 78, 79, 80, 81, 82, 83, 84, 85, 86, 87] rfl (by decide +kernel)
set_option maxRecDepth 20000 in
theorem gX11_change_X10_changed : GoodIn wsX11_change (wsV RX11 265 RX10 yX10_changed wsX10_changed) := goodIn_app (goodIn_r _ [18, 19, 20, 21] rfl (by decide +kernel)) ggX11_change_X10_changed
theorem dX11_change_0 : decode cX11_change 0 = .ok (.iload_n 1, 1) := by decide +kernel
theorem dX11_change_1 : decode cX11_change 1 = .ok (.iconst 0, 1) := by decide +kernel
theorem dX11_change_2 : decode cX11_change 2 = .ok (.sipush 9999, 3) := by decide +kernel
theorem dX11_change_5 : decode cX11_change 5 = .ok (.invokestatic 108, 3) := by decide +kernel
theorem dX11_change_8 : decode cX11_change 8 = .ok (.ifCond .eq 17, 3) := by decide +kernel
theorem dX11_change_11 : decode cX11_change 11 = .ok (.iload_n 2, 1) := by decide +kernel
theorem dX11_change_12 : decode cX11_change 12 = .ok (.invokestatic 262, 3) := by decide +kernel
theorem dX11_change_15 : decode cX11_change 15 = .ok (.ifCond .eq 10, 3) := by decide +kernel
theorem dX11_change_18 : decode cX11_change 18 = .ok (.iload_n 3, 1) := by decide +kernel
theorem dX11_change_19 : decode cX11_change 19 = .ok (.invokestatic 191, 3) := by decide +kernel
theorem dX11_change_22 : decode cX11_change 22 = .ok (.ifCond .ne 5, 3) := by decide +kernel
theorem dX11_change_25 : decode cX11_change 25 = .ok (.iconst (-1), 1) := by decide +kernel
theorem dX11_change_26 : decode cX11_change 26 = .ok (.ireturn, 1) := by decide +kernel
theorem dX11_change_27 : decode cX11_change 27 = .ok (.aload_n 0, 1) := by decide +kernel
theorem dX11_change_28 : decode cX11_change 28 = .ok (.getfield 40, 3) := by decide +kernel
theorem dX11_change_31 : decode cX11_change 31 = .ok (.iload_n 1, 1) := by decide +kernel
theorem dX11_change_32 : decode cX11_change 32 = .ok (.iload_n 2, 1) := by decide +kernel
theorem dX11_change_33 : decode cX11_change 33 = .ok (.bipush 10, 2) := by decide +kernel
theorem dX11_change_35 : decode cX11_change 35 = .ok (.idiv, 1) := by decide +kernel
theorem dX11_change_36 : decode cX11_change 36 = .ok (.iload_n 2, 1) := by decide +kernel
theorem dX11_change_37 : decode cX11_change 37 = .ok (.bipush 10, 2) := by decide +kernel
theorem dX11_change_39 : decode cX11_change 39 = .ok (.irem, 1) := by decide +kernel
theorem dX11_change_40 : decode cX11_change 40 = .ok (.iload_n 3, 1) := by decide +kernel
theorem dX11_change_41 : decode cX11_change 41 = .ok (.invokevirtual 265, 3) := by decide +kernel
theorem dX11_change_44 : decode cX11_change 44 = .ok (.ireturn, 1) := by decide +kernel
set_option maxRecDepth 20000 in
theorem ggX11_way_X11_within : GoodIn wsX11_way wsX11_within := goodIn_r _ [5] rfl (by decide +kernel)
set_option maxRecDepth 20000 in
theorem gX11_way_X11_within : GoodIn wsX11_way (va_wsS RX11 108 yX11_within wsX11_within) := goodIn_app (goodIn_r _ [2, 3, 4] rfl (by decide +kernel)) ggX11_way_X11_within
set_option maxRecDepth 20000 in
theorem ggX11_way_X11_isChange : GoodIn wsX11_way wsX11_isChange := goodIn_r _ [8, 9, 10, 4, 11, 12, 13, 14, 2, 3, 5] rfl (by decide +kernel)
set_option maxRecDepth 20000 in
theorem gX11_way_X11_isChange : GoodIn wsX11_way (va_wsS RX11 262 yX11_isChange wsX11_isChange) := goodIn_app (goodIn_r _ [6, 7, 4] rfl (by decide +kernel)) ggX11_way_X11_isChange
set_option maxRecDepth 20000 in
theorem ggX11_way_X11_isDay : GoodIn wsX11_way wsX11_isDay := goodIn_r _ [17, 2, 3, 4, 5] rfl (by decide +kernel)
set_option maxRecDepth 20000 in
theorem gX11_way_X11_isDay : GoodIn wsX11_way (va_wsS RX11 191 yX11_isDay wsX11_isDay) := goodIn_app (goodIn_r _ [15, 16, 4] rfl (by decide +kernel)) ggX11_way_X11_isDay
set_option maxRecDepth 20000 in
theorem ggX11_way_X10_search : GoodIn wsX11_way wsX10_search := goodIn_r _ [22, 23, 24, 25, 26, 27, 28, 21, 29, 30, 31, 32, 33, 34, 35, 36, 37, 38, 39, 40, 41, 42, 43, 44, 45, 46, 47, 48, 49, 50, 51, 52, 53, 54, 55, 56, 57, 58, 59, 60, 61, 62, 63, 64, 65, 66, 67, 68, 69, 70, 71, 72, 4, 73, 74, 75, 76, 77, 78, 79, 93, 94, 95, 96, 97, 98, 99, 100, 101, 102, 103] rfl (by decide +kernel)
set_option maxRecDepth 20000 in
theorem gX11_way_X10_search : GoodIn wsX11_way (wsV RX11 268 RX10 yX10_search wsX10_search) := goodIn_app (goodIn_r _ [18, 19, 20, 21] rfl (by decide +kernel)) ggX11_way_X10_search
theorem dX11_way_0 : decode cX11_way 0 = .ok (.iload_n 1, 1) := by decide +kernel
theorem dX11_way_1 : decode cX11_way 1 = .ok (.iconst 0, 1) := by decide +kernel
theorem dX11_way_2 : decode cX11_way 2 = .ok (.sipush 9999, 3) := by decide +kernel
theorem dX11_way_5 : decode cX11_way 5 = .ok (.invokestatic 108, 3) := by decide +kernel
theorem dX11_way_8 : decode cX11_way 8 = .ok (.ifCond .eq 27, 3) := by decide +kernel
theorem dX11_way_11 : decode cX11_way 11 = .ok (.iload_n 2, 1) := by decide +kernel
theorem dX11_way_12 : decode cX11_way 12 = .ok (.invokestatic 262, 3) := by decide +kernel
theorem dX11_way_15 : decode cX11_way 15 = .ok (.ifCond .eq 20, 3) := by decide +kernel
theorem dX11_way_18 : decode cX11_way 18 = .ok (.iload_n 3, 1) := by decide +kernel
theorem dX11_way_19 : decode cX11_way 19 = .ok (.invokestatic 191, 3) := by decide +kernel
theorem dX11_way_22 : decode cX11_way 22 = .ok (.ifCond .eq 13, 3) := by decide +kernel
theorem dX11_way_25 : decode cX11_way 25 = .ok (.iload 4, 2) := by decide +kernel
theorem dX11_way_27 : decode cX11_way 27 = .ok (.iconst 0, 1) := by decide +kernel
theorem dX11_way_28 : decode cX11_way 28 = .ok (.iconst 1, 1) := by decide +kernel
theorem dX11_way_29 : decode cX11_way 29 = .ok (.invokestatic 108, 3) := by decide +kernel
theorem dX11_way_32 : decode cX11_way 32 = .ok (.ifCond .ne 5, 3) := by decide +kernel
theorem dX11_way_35 : decode cX11_way 35 = .ok (.iconst (-1), 1) := by decide +kernel
theorem dX11_way_36 : decode cX11_way 36 = .ok (.ireturn, 1) := by decide +kernel
theorem dX11_way_37 : decode cX11_way 37 = .ok (.aload_n 0, 1) := by decide +kernel
theorem dX11_way_38 : decode cX11_way 38 = .ok (.getfield 40, 3) := by decide +kernel
theorem dX11_way_41 : decode cX11_way 41 = .ok (.iload_n 1, 1) := by decide +kernel
theorem dX11_way_42 : decode cX11_way 42 = .ok (.iload_n 2, 1) := by decide +kernel
theorem dX11_way_43 : decode cX11_way 43 = .ok (.bipush 10, 2) := by decide +kernel
theorem dX11_way_45 : decode cX11_way 45 = .ok (.idiv, 1) := by decide +kernel
theorem dX11_way_46 : decode cX11_way 46 = .ok (.iload_n 2, 1) := by decide +kernel
theorem dX11_way_47 : decode cX11_way 47 = .ok (.bipush 10, 2) := by decide +kernel
theorem dX11_way_49 : decode cX11_way 49 = .ok (.irem, 1) := by decide +kernel
theorem dX11_way_50 : decode cX11_way 50 = .ok (.iload_n 3, 1) := by decide +kernel
theorem dX11_way_51 : decode cX11_way 51 = .ok (.invokevirtual 268, 3) := by decide +kernel
theorem dX11_way_54 : decode cX11_way 54 = .ok (.iload 4, 2) := by decide +kernel
theorem dX11_way_56 : decode cX11_way 56 = .ok (.ifCond .ne 13, 3) := by decide +kernel
theorem dX11_way_59 : decode cX11_way 59 = .ok (.aload_n 0, 1) := by decide +kernel
theorem dX11_way_60 : decode cX11_way 60 = .ok (.getfield 40, 3) := by decide +kernel
theorem dX11_way_63 : decode cX11_way 63 = .ok (.getfield 271, 3) := by decide +kernel
theorem dX11_way_66 : decode cX11_way 66 = .ok (.goto 10, 3) := by decide +kernel
theorem dX11_way_69 : decode cX11_way 69 = .ok (.aload_n 0, 1) := by decide +kernel
theorem dX11_way_70 : decode cX11_way 70 = .ok (.getfield 40, 3) := by decide +kernel
theorem dX11_way_73 : decode cX11_way 73 = .ok (.getfield 274, 3) := by decide +kernel
theorem dX11_way_76 : decode cX11_way 76 = .ok (.ireturn, 1) := by decide +kernel
set_option maxRecDepth 20000 in
theorem ggX11_round_X11_within : GoodIn wsX11_round wsX11_within := goodIn_r _ [5] rfl (by decide +kernel)
set_option maxRecDepth 20000 in
theorem gX11_round_X11_within : GoodIn wsX11_round (va_wsS RX11 108 yX11_within wsX11_within) := goodIn_app (goodIn_r _ [2, 3, 4] rfl (by decide +kernel)) ggX11_round_X11_within
set_option maxRecDepth 20000 in
theorem ggX11_round_X11_isLand : GoodIn wsX11_round wsX11_isLand := goodIn_r _ [8, 2, 3, 4, 5] rfl (by decide +kernel)
set_option maxRecDepth 20000 in
theorem gX11_round_X11_isLand : GoodIn wsX11_round (va_wsS RX11 132 yX11_isLand wsX11_isLand) := goodIn_app (goodIn_r _ [6, 7, 4] rfl (by decide +kernel)) ggX11_round_X11_isLand
set_option maxRecDepth 20000 in
theorem ggX11_round_X11_isDay : GoodIn wsX11_round wsX11_isDay := goodIn_r _ [11, 2, 3, 4, 5] rfl (by decide +kernel)
set_option maxRecDepth 20000 in
theorem gX11_round_X11_isDay : GoodIn wsX11_round (va_wsS RX11 191 yX11_isDay wsX11_isDay) := goodIn_app (goodIn_r _ [9, 10, 4] rfl (by decide +kernel)) ggX11_round_X11_isDay
set_option maxRecDepth 20000 in
theorem ggX11_round_X10_search : GoodIn wsX11_round wsX10_search := goodIn_r _ [16, 17, 18, 19, 20, 21, 22, 15, 23, 24, 25, 26, 27, 28, 29, 30, 31, 32, 33, 34, 35, 36, 37, 38, 39, 40, 41, 42, 43, 44, 45, 46, 47, 48, 49, 50, 51, 52, 53, 54, 55, 56, 57, 58, 59, 60, 61, 62, 63, 64, 65, 66, 4, 67, 68, 69, 70, 71, 72, 73, 87, 88, 89, 90, 91, 92, 93, 94, 95, 96, 97] rfl (by decide +kernel)
set_option maxRecDepth 20000 in
theorem gX11_round_X10_search : GoodIn wsX11_round (wsV RX11 268 RX10 yX10_search wsX10_search) := goodIn_app (goodIn_r _ [12, 13, 14, 15] rfl (by decide +kernel)) ggX11_round_X10_search
theorem dX11_round_0 : decode cX11_round 0 = .ok (.iload_n 1, 1) := by decide +kernel
theorem dX11_round_1 : decode cX11_round 1 = .ok (.iconst 0, 1) := by decide +kernel
theorem dX11_round_2 : decode cX11_round 2 = .ok (.sipush 9999, 3) := by decide +kernel
theorem dX11_round_5 : decode cX11_round 5 = .ok (.invokestatic 108, 3) := by decide +kernel
theorem dX11_round_8 : decode cX11_round 8 = .ok (.ifCond .eq 27, 3) := by decide +kernel
theorem dX11_round_11 : decode cX11_round 11 = .ok (.iload_n 2, 1) := by decide +kernel
theorem dX11_round_12 : decode cX11_round 12 = .ok (.invokestatic 132, 3) := by decide +kernel
theorem dX11_round_15 : decode cX11_round 15 = .ok (.ifCond .eq 20, 3) := by decide +kernel
theorem dX11_round_18 : decode cX11_round 18 = .ok (.iload_n 3, 1) := by decide +kernel
theorem dX11_round_19 : decode cX11_round 19 = .ok (.invokestatic 191, 3) := by decide +kernel
theorem dX11_round_22 : decode cX11_round 22 = .ok (.ifCond .eq 13, 3) := by decide +kernel
theorem dX11_round_25 : decode cX11_round 25 = .ok (.iload 4, 2) := by decide +kernel
theorem dX11_round_27 : decode cX11_round 27 = .ok (.iconst 0, 1) := by decide +kernel
theorem dX11_round_28 : decode cX11_round 28 = .ok (.iconst 1, 1) := by decide +kernel
theorem dX11_round_29 : decode cX11_round 29 = .ok (.invokestatic 108, 3) := by decide +kernel
theorem dX11_round_32 : decode cX11_round 32 = .ok (.ifCond .ne 5, 3) := by decide +kernel
theorem dX11_round_35 : decode cX11_round 35 = .ok (.iconst (-1), 1) := by decide +kernel
theorem dX11_round_36 : decode cX11_round 36 = .ok (.ireturn, 1) := by decide +kernel
theorem dX11_round_37 : decode cX11_round 37 = .ok (.aload_n 0, 1) := by decide +kernel
theorem dX11_round_38 : decode cX11_round 38 = .ok (.getfield 40, 3) := by decide +kernel
theorem dX11_round_41 : decode cX11_round 41 = .ok (.iload_n 1, 1) := by decide +kernel
theorem dX11_round_42 : decode cX11_round 42 = .ok (.iload_n 2, 1) := by decide +kernel
theorem dX11_round_43 : decode cX11_round 43 = .ok (.iload_n 2, 1) := by decide +kernel
theorem dX11_round_44 : decode cX11_round 44 = .ok (.iload_n 3, 1) := by decide +kernel
theorem dX11_round_45 : decode cX11_round 45 = .ok (.invokevirtual 268, 3) := by decide +kernel
theorem dX11_round_48 : decode cX11_round 48 = .ok (.iload 4, 2) := by decide +kernel
theorem dX11_round_50 : decode cX11_round 50 = .ok (.ifCond .ne 13, 3) := by decide +kernel
theorem dX11_round_53 : decode cX11_round 53 = .ok (.aload_n 0, 1) := by decide +kernel
theorem dX11_round_54 : decode cX11_round 54 = .ok (.getfield 40, 3) := by decide +kernel
theorem dX11_round_57 : decode cX11_round 57 = .ok (.getfield 271, 3) := by decide +kernel
theorem dX11_round_60 : decode cX11_round 60 = .ok (.goto 10, 3) := by decide +kernel
theorem dX11_round_63 : decode cX11_round 63 = .ok (.aload_n 0, 1) := by decide +kernel
theorem dX11_round_64 : decode cX11_round 64 = .ok (.getfield 40, 3) := by decide +kernel
theorem dX11_round_67 : decode cX11_round 67 = .ok (.getfield 274, 3) := by decide +kernel
theorem dX11_round_70 : decode cX11_round 70 = .ok (.ireturn, 1) := by decide +kernel
set_option maxRecDepth 20000 in
theorem ggX11_waits_X11_within : GoodIn wsX11_waits wsX11_within := goodIn_r _ [5] rfl (by decide +kernel)
set_option maxRecDepth 20000 in
theorem gX11_waits_X11_within : GoodIn wsX11_waits (va_wsS RX11 108 yX11_within wsX11_within) := goodIn_app (goodIn_r _ [2, 3, 4] rfl (by decide +kernel)) ggX11_waits_X11_within
set_option maxRecDepth 20000 in
theorem ggX11_waits_X11_isChange : GoodIn wsX11_waits wsX11_isChange := goodIn_r _ [8, 9, 10, 4, 11, 12, 13, 14, 2, 3, 5] rfl (by decide +kernel)
set_option maxRecDepth 20000 in
theorem gX11_waits_X11_isChange : GoodIn wsX11_waits (va_wsS RX11 262 yX11_isChange wsX11_isChange) := goodIn_app (goodIn_r _ [6, 7, 4] rfl (by decide +kernel)) ggX11_waits_X11_isChange
set_option maxRecDepth 20000 in
theorem ggX11_waits_X11_isDay : GoodIn wsX11_waits wsX11_isDay := goodIn_r _ [17, 2, 3, 4, 5] rfl (by decide +kernel)
set_option maxRecDepth 20000 in
theorem gX11_waits_X11_isDay : GoodIn wsX11_waits (va_wsS RX11 191 yX11_isDay wsX11_isDay) := goodIn_app (goodIn_r _ [15, 16, 4] rfl (by decide +kernel)) ggX11_waits_X11_isDay
set_option maxRecDepth 20000 in
theorem ggX11_waits_X10_changed : GoodIn wsX11_waits wsX10_changed := goodIn_r _ [22, 23, 24, 25, 26, 27, 28, 29, 30, 31, 32, 33, 34, 21, 35, 36, 37, 38, 39, 40, 41, 42, 43, 44, 45, 46, 47, 48, 49, 50, 51, 52, 53, 54, 55, 56, 4, 57, 58, 59, 60, 61, 62, 63, 77, 78, 79, 80, 81, 82, 83, 84, 85, 86, 87] rfl (by decide +kernel)
set_option maxRecDepth 20000 in
theorem gX11_waits_X10_changed : GoodIn wsX11_waits (wsV RX11 265 RX10 yX10_changed wsX10_changed) := goodIn_app (goodIn_r _ [18, 19, 20, 21] rfl (by decide +kernel)) ggX11_waits_X10_changed
theorem dX11_waits_0 : decode cX11_waits 0 = .ok (.iload_n 1, 1) := by decide +kernel
theorem dX11_waits_1 : decode cX11_waits 1 = .ok (.iconst 0, 1) := by decide +kernel
theorem dX11_waits_2 : decode cX11_waits 2 = .ok (.sipush 9999, 3) := by decide +kernel
theorem dX11_waits_5 : decode cX11_waits 5 = .ok (.invokestatic 108, 3) := by decide +kernel
theorem dX11_waits_8 : decode cX11_waits 8 = .ok (.ifCond .eq 24, 3) := by decide +kernel
theorem dX11_waits_11 : decode cX11_waits 11 = .ok (.iload_n 2, 1) := by decide +kernel
theorem dX11_waits_12 : decode cX11_waits 12 = .ok (.invokestatic 262, 3) := by decide +kernel
theorem dX11_waits_15 : decode cX11_waits 15 = .ok (.ifCond .eq 17, 3) := by decide +kernel
theorem dX11_waits_18 : decode cX11_waits 18 = .ok (.iload_n 3, 1) := by decide +kernel
theorem dX11_waits_19 : decode cX11_waits 19 = .ok (.ifCond .lt 13, 3) := by decide +kernel
theorem dX11_waits_22 : decode cX11_waits 22 = .ok (.iload 4, 2) := by decide +kernel
theorem dX11_waits_24 : decode cX11_waits 24 = .ok (.iconst 0, 1) := by decide +kernel
theorem dX11_waits_25 : decode cX11_waits 25 = .ok (.iconst 1, 1) := by decide +kernel
theorem dX11_waits_26 : decode cX11_waits 26 = .ok (.invokestatic 108, 3) := by decide +kernel
theorem dX11_waits_29 : decode cX11_waits 29 = .ok (.ifCond .ne 5, 3) := by decide +kernel
theorem dX11_waits_32 : decode cX11_waits 32 = .ok (.iconst (-1), 1) := by decide +kernel
theorem dX11_waits_33 : decode cX11_waits 33 = .ok (.ireturn, 1) := by decide +kernel
theorem dX11_waits_34 : decode cX11_waits 34 = .ok (.iload_n 3, 1) := by decide +kernel
theorem dX11_waits_35 : decode cX11_waits 35 = .ok (.bipush 100, 2) := by decide +kernel
theorem dX11_waits_37 : decode cX11_waits 37 = .ok (.idiv, 1) := by decide +kernel
theorem dX11_waits_38 : decode cX11_waits 38 = .ok (.invokestatic 191, 3) := by decide +kernel
theorem dX11_waits_41 : decode cX11_waits 41 = .ok (.ifCond .eq 12, 3) := by decide +kernel
theorem dX11_waits_44 : decode cX11_waits 44 = .ok (.iload_n 3, 1) := by decide +kernel
theorem dX11_waits_45 : decode cX11_waits 45 = .ok (.bipush 100, 2) := by decide +kernel
theorem dX11_waits_47 : decode cX11_waits 47 = .ok (.irem, 1) := by decide +kernel
theorem dX11_waits_48 : decode cX11_waits 48 = .ok (.bipush 60, 2) := by decide +kernel
theorem dX11_waits_50 : decode cX11_waits 50 = .ok (.if_icmp .le 5, 3) := by decide +kernel
theorem dX11_waits_53 : decode cX11_waits 53 = .ok (.iconst (-1), 1) := by decide +kernel
theorem dX11_waits_54 : decode cX11_waits 54 = .ok (.ireturn, 1) := by decide +kernel
theorem dX11_waits_55 : decode cX11_waits 55 = .ok (.iload_n 3, 1) := by decide +kernel
theorem dX11_waits_56 : decode cX11_waits 56 = .ok (.bipush 100, 2) := by decide +kernel
theorem dX11_waits_58 : decode cX11_waits 58 = .ok (.idiv, 1) := by decide +kernel
theorem dX11_waits_59 : decode cX11_waits 59 = .ok (.istore 5, 2) := by decide +kernel
theorem dX11_waits_61 : decode cX11_waits 61 = .ok (.iconst (-1), 1) := by decide +kernel
theorem dX11_waits_62 : decode cX11_waits 62 = .ok (.istore 6, 2) := by decide +kernel
theorem dX11_waits_64 : decode cX11_waits 64 = .ok (.iconst 0, 1) := by decide +kernel
theorem dX11_waits_65 : decode cX11_waits 65 = .ok (.istore 7, 2) := by decide +kernel
theorem dX11_waits_67 : decode cX11_waits 67 = .ok (.iload 7, 2) := by decide +kernel
theorem dX11_waits_69 : decode cX11_waits 69 = .ok (.iload_n 3, 1) := by decide +kernel
theorem dX11_waits_70 : decode cX11_waits 70 = .ok (.bipush 100, 2) := by decide +kernel
theorem dX11_waits_72 : decode cX11_waits 72 = .ok (.irem, 1) := by decide +kernel
theorem dX11_waits_73 : decode cX11_waits 73 = .ok (.if_icmp .gt 54, 3) := by decide +kernel
theorem dX11_waits_76 : decode cX11_waits 76 = .ok (.aload_n 0, 1) := by decide +kernel
theorem dX11_waits_77 : decode cX11_waits 77 = .ok (.getfield 40, 3) := by decide +kernel
theorem dX11_waits_80 : decode cX11_waits 80 = .ok (.iload_n 1, 1) := by decide +kernel
theorem dX11_waits_81 : decode cX11_waits 81 = .ok (.iload_n 2, 1) := by decide +kernel
theorem dX11_waits_82 : decode cX11_waits 82 = .ok (.bipush 10, 2) := by decide +kernel
theorem dX11_waits_84 : decode cX11_waits 84 = .ok (.idiv, 1) := by decide +kernel
theorem dX11_waits_85 : decode cX11_waits 85 = .ok (.iload_n 2, 1) := by decide +kernel
theorem dX11_waits_86 : decode cX11_waits 86 = .ok (.bipush 10, 2) := by decide +kernel
theorem dX11_waits_88 : decode cX11_waits 88 = .ok (.irem, 1) := by decide +kernel
theorem dX11_waits_89 : decode cX11_waits 89 = .ok (.iload_n 3, 1) := by decide +kernel
theorem dX11_waits_90 : decode cX11_waits 90 = .ok (.bipush 100, 2) := by decide +kernel
theorem dX11_waits_92 : decode cX11_waits 92 = .ok (.idiv, 1) := by decide +kernel
theorem dX11_waits_93 : decode cX11_waits 93 = .ok (.iload 7, 2) := by decide +kernel
theorem dX11_waits_95 : decode cX11_waits 95 = .ok (.iadd, 1) := by decide +kernel
theorem dX11_waits_96 : decode cX11_waits 96 = .ok (.invokevirtual 265, 3) := by decide +kernel
theorem dX11_waits_99 : decode cX11_waits 99 = .ok (.istore 8, 2) := by decide +kernel
theorem dX11_waits_101 : decode cX11_waits 101 = .ok (.iload 8, 2) := by decide +kernel
theorem dX11_waits_103 : decode cX11_waits 103 = .ok (.iload 6, 2) := by decide +kernel
theorem dX11_waits_105 : decode cX11_waits 105 = .ok (.if_icmp .le 16, 3) := by decide +kernel
theorem dX11_waits_108 : decode cX11_waits 108 = .ok (.iload 8, 2) := by decide +kernel
theorem dX11_waits_110 : decode cX11_waits 110 = .ok (.istore 6, 2) := by decide +kernel
theorem dX11_waits_112 : decode cX11_waits 112 = .ok (.iload_n 3, 1) := by decide +kernel
theorem dX11_waits_113 : decode cX11_waits 113 = .ok (.bipush 100, 2) := by decide +kernel
theorem dX11_waits_115 : decode cX11_waits 115 = .ok (.idiv, 1) := by decide +kernel
theorem dX11_waits_116 : decode cX11_waits 116 = .ok (.iload 7, 2) := by decide +kernel
theorem dX11_waits_118 : decode cX11_waits 118 = .ok (.iadd, 1) := by decide +kernel
theorem dX11_waits_119 : decode cX11_waits 119 = .ok (.istore 5, 2) := by decide +kernel
theorem dX11_waits_121 : decode cX11_waits 121 = .ok (.iinc 7 1, 3) := by decide +kernel
theorem dX11_waits_124 : decode cX11_waits 124 = .ok (.goto (-57), 3) := by decide +kernel
theorem dX11_waits_127 : decode cX11_waits 127 = .ok (.iload 4, 2) := by decide +kernel
theorem dX11_waits_129 : decode cX11_waits 129 = .ok (.ifCond .ne 8, 3) := by decide +kernel
theorem dX11_waits_132 : decode cX11_waits 132 = .ok (.iload 5, 2) := by decide +kernel
theorem dX11_waits_134 : decode cX11_waits 134 = .ok (.goto 5, 3) := by decide +kernel
theorem dX11_waits_137 : decode cX11_waits 137 = .ok (.iload 6, 2) := by decide +kernel
theorem dX11_waits_139 : decode cX11_waits 139 = .ok (.ireturn, 1) := by decide +kernel
set_option maxRecDepth 20000 in
theorem ggX11_swap_X11_isAmount : GoodIn wsX11_swap wsX11_isAmount := goodIn_r _ [6, 7, 8, 5, 9, 10, 11, 12] rfl (by decide +kernel)
set_option maxRecDepth 20000 in
theorem gX11_swap_X11_isAmount : GoodIn wsX11_swap (va_wsS RX11 198 yX11_isAmount wsX11_isAmount) := goodIn_app (goodIn_r _ [3, 4, 5] rfl (by decide +kernel)) ggX11_swap_X11_isAmount
set_option maxRecDepth 20000 in
theorem ggX11_swap_X11_isDay : GoodIn wsX11_swap wsX11_isDay := goodIn_r _ [15, 10, 11, 5, 12] rfl (by decide +kernel)
set_option maxRecDepth 20000 in
theorem gX11_swap_X11_isDay : GoodIn wsX11_swap (va_wsS RX11 191 yX11_isDay wsX11_isDay) := goodIn_app (goodIn_r _ [13, 14, 5] rfl (by decide +kernel)) ggX11_swap_X11_isDay
set_option maxRecDepth 20000 in
theorem ggX11_swap_X5_spread : GoodIn wsX11_swap wsX5_spread := goodIn_r _ [20, 21, 22, 23, 24, 25, 26, 27, 28, 19, 29, 109, 110, 111, 112, 113, 103, 104, 105, 106, 107, 108] rfl (by decide +kernel)
set_option maxRecDepth 20000 in
theorem gX11_swap_X5_spread : GoodIn wsX11_swap (wsV RX11 208 RX5 yX5_spread wsX5_spread) := goodIn_app (goodIn_r _ [16, 17, 18, 19] rfl (by decide +kernel)) ggX11_swap_X5_spread
set_option maxRecDepth 20000 in
theorem ggX11_swap_X5_can : GoodIn wsX11_swap wsX5_can := goodIn_r _ [33, 21, 109, 110, 111, 112, 113] rfl (by decide +kernel)
set_option maxRecDepth 20000 in
theorem gX11_swap_X5_can : GoodIn wsX11_swap (wsV RX11 277 RX5 yX5_can wsX5_can) := goodIn_app (goodIn_r _ [30, 31, 32, 19] rfl (by decide +kernel)) ggX11_swap_X5_can
set_option maxRecDepth 20000 in
theorem ggX11_swap_X11_leastSwap : GoodIn wsX11_swap wsX11_leastSwap := goodIn_r _ [37, 2, 38, 39, 40, 5, 41, 42, 43, 44, 45, 46, 47, 48, 49, 50, 51, 52, 53, 54, 55, 56, 57, 58, 59, 60, 61, 62, 63, 64, 65, 66, 67, 68, 69, 70, 71, 72, 73, 74, 75, 76, 77, 78, 79, 80, 81, 82, 83, 84, 85, 1, 86, 87, 88, 89, 16, 17, 18, 19, 20, 21, 22, 23, 24, 25, 26, 27, 28, 29, 30, 31, 32, 33, 90, 91, 92, 93, 94, 95, 96, 97, 98, 99, 100, 101, 102, 103, 104, 105, 106, 107, 108, 114, 115, 116, 117, 118, 119, 120, 121, 122, 123, 124, 109, 110, 111, 112, 113] rfl (by decide +kernel)
set_option maxRecDepth 20000 in
theorem gX11_swap_X11_leastSwap : GoodIn wsX11_swap (wsV RX11 280 RX11 yX11_leastSwap wsX11_leastSwap) := goodIn_app (goodIn_r _ [34, 35, 36, 5] rfl (by decide +kernel)) ggX11_swap_X11_leastSwap
theorem dX11_swap_0 : decode cX11_swap 0 = .ok (.iload_n 1, 1) := by decide +kernel
theorem dX11_swap_1 : decode cX11_swap 1 = .ok (.invokestatic 198, 3) := by decide +kernel
theorem dX11_swap_4 : decode cX11_swap 4 = .ok (.ifCond .eq 10, 3) := by decide +kernel
theorem dX11_swap_7 : decode cX11_swap 7 = .ok (.iload_n 2, 1) := by decide +kernel
theorem dX11_swap_8 : decode cX11_swap 8 = .ok (.invokestatic 191, 3) := by decide +kernel
theorem dX11_swap_11 : decode cX11_swap 11 = .ok (.ifCond .ne 5, 3) := by decide +kernel
theorem dX11_swap_14 : decode cX11_swap 14 = .ok (.iconst (-1), 1) := by decide +kernel
theorem dX11_swap_15 : decode cX11_swap 15 = .ok (.ireturn, 1) := by decide +kernel
theorem dX11_swap_16 : decode cX11_swap 16 = .ok (.aload_n 0, 1) := by decide +kernel
theorem dX11_swap_17 : decode cX11_swap 17 = .ok (.getfield 26, 3) := by decide +kernel
theorem dX11_swap_20 : decode cX11_swap 20 = .ok (.aload_n 0, 1) := by decide +kernel
theorem dX11_swap_21 : decode cX11_swap 21 = .ok (.getfield 12, 3) := by decide +kernel
theorem dX11_swap_24 : decode cX11_swap 24 = .ok (.aload_n 0, 1) := by decide +kernel
theorem dX11_swap_25 : decode cX11_swap 25 = .ok (.getfield 12, 3) := by decide +kernel
theorem dX11_swap_28 : decode cX11_swap 28 = .ok (.getfield 125, 3) := by decide +kernel
theorem dX11_swap_31 : decode cX11_swap 31 = .ok (.iload_n 1, 1) := by decide +kernel
theorem dX11_swap_32 : decode cX11_swap 32 = .ok (.sipush 10000, 3) := by decide +kernel
theorem dX11_swap_35 : decode cX11_swap 35 = .ok (.idiv, 1) := by decide +kernel
theorem dX11_swap_36 : decode cX11_swap 36 = .ok (.invokevirtual 208, 3) := by decide +kernel
theorem dX11_swap_39 : decode cX11_swap 39 = .ok (.aload_n 0, 1) := by decide +kernel
theorem dX11_swap_40 : decode cX11_swap 40 = .ok (.getfield 26, 3) := by decide +kernel
theorem dX11_swap_43 : decode cX11_swap 43 = .ok (.iload_n 1, 1) := by decide +kernel
theorem dX11_swap_44 : decode cX11_swap 44 = .ok (.sipush 10000, 3) := by decide +kernel
theorem dX11_swap_47 : decode cX11_swap 47 = .ok (.irem, 1) := by decide +kernel
theorem dX11_swap_48 : decode cX11_swap 48 = .ok (.invokevirtual 277, 3) := by decide +kernel
theorem dX11_swap_51 : decode cX11_swap 51 = .ok (.ifCond .eq 6, 3) := by decide +kernel
theorem dX11_swap_54 : decode cX11_swap 54 = .ok (.bipush (-5), 2) := by decide +kernel
theorem dX11_swap_56 : decode cX11_swap 56 = .ok (.ireturn, 1) := by decide +kernel
theorem dX11_swap_57 : decode cX11_swap 57 = .ok (.iconst 2, 1) := by decide +kernel
theorem dX11_swap_58 : decode cX11_swap 58 = .ok (.istore_n 3, 1) := by decide +kernel
theorem dX11_swap_59 : decode cX11_swap 59 = .ok (.iload_n 3, 1) := by decide +kernel
theorem dX11_swap_60 : decode cX11_swap 60 = .ok (.bipush 6, 2) := by decide +kernel
theorem dX11_swap_62 : decode cX11_swap 62 = .ok (.if_icmp .gt 26, 3) := by decide +kernel
theorem dX11_swap_65 : decode cX11_swap 65 = .ok (.aload_n 0, 1) := by decide +kernel
theorem dX11_swap_66 : decode cX11_swap 66 = .ok (.iload_n 1, 1) := by decide +kernel
theorem dX11_swap_67 : decode cX11_swap 67 = .ok (.iload_n 2, 1) := by decide +kernel
theorem dX11_swap_68 : decode cX11_swap 68 = .ok (.iload_n 3, 1) := by decide +kernel
theorem dX11_swap_69 : decode cX11_swap 69 = .ok (.invokevirtual 280, 3) := by decide +kernel
theorem dX11_swap_72 : decode cX11_swap 72 = .ok (.istore 4, 2) := by decide +kernel
theorem dX11_swap_74 : decode cX11_swap 74 = .ok (.iload 4, 2) := by decide +kernel
theorem dX11_swap_76 : decode cX11_swap 76 = .ok (.ifCond .lt 6, 3) := by decide +kernel
theorem dX11_swap_79 : decode cX11_swap 79 = .ok (.iload 4, 2) := by decide +kernel
theorem dX11_swap_81 : decode cX11_swap 81 = .ok (.ireturn, 1) := by decide +kernel
theorem dX11_swap_82 : decode cX11_swap 82 = .ok (.iinc 3 1, 3) := by decide +kernel
theorem dX11_swap_85 : decode cX11_swap 85 = .ok (.goto (-26), 3) := by decide +kernel
theorem dX11_swap_88 : decode cX11_swap 88 = .ok (.bipush (-2), 2) := by decide +kernel
theorem dX11_swap_90 : decode cX11_swap 90 = .ok (.ireturn, 1) := by decide +kernel
set_option maxRecDepth 20000 in
theorem ggX11_kept_X11_within : GoodIn wsX11_kept wsX11_within := goodIn_r _ [4] rfl (by decide +kernel)
set_option maxRecDepth 20000 in
theorem gX11_kept_X11_within : GoodIn wsX11_kept (va_wsS RX11 108 yX11_within wsX11_within) := goodIn_app (goodIn_r _ [1, 2, 3] rfl (by decide +kernel)) ggX11_kept_X11_within
set_option maxRecDepth 20000 in
theorem ggX11_kept_X11_purseInYear : GoodIn wsX11_kept wsX11_purseInYear := goodIn_r _ [8, 9, 10, 11, 12, 13, 3, 14, 15, 16, 17, 18, 19, 20, 21, 22, 23, 24, 25, 26, 27, 28, 29, 30, 31, 32, 33, 34, 35, 36, 37, 38, 39, 40, 41, 42, 43, 44, 45, 46, 47, 48, 49, 50, 51, 52, 53, 54, 55, 56, 57, 58, 59, 60, 61, 62, 63, 64, 65, 66, 67] rfl (by decide +kernel)
set_option maxRecDepth 20000 in
theorem gX11_kept_X11_purseInYear : GoodIn wsX11_kept (wsV RX11 283 RX11 yX11_purseInYear wsX11_purseInYear) := goodIn_app (goodIn_r _ [5, 6, 7, 3] rfl (by decide +kernel)) ggX11_kept_X11_purseInYear
theorem dX11_kept_0 : decode cX11_kept 0 = .ok (.iload_n 1, 1) := by decide +kernel
theorem dX11_kept_1 : decode cX11_kept 1 = .ok (.iconst 0, 1) := by decide +kernel
theorem dX11_kept_2 : decode cX11_kept 2 = .ok (.bipush 60, 2) := by decide +kernel
theorem dX11_kept_4 : decode cX11_kept 4 = .ok (.invokestatic 108, 3) := by decide +kernel
theorem dX11_kept_7 : decode cX11_kept 7 = .ok (.ifCond .eq 9, 3) := by decide +kernel
theorem dX11_kept_10 : decode cX11_kept 10 = .ok (.aload_n 0, 1) := by decide +kernel
theorem dX11_kept_11 : decode cX11_kept 11 = .ok (.iload_n 1, 1) := by decide +kernel
theorem dX11_kept_12 : decode cX11_kept 12 = .ok (.invokevirtual 283, 3) := by decide +kernel
theorem dX11_kept_15 : decode cX11_kept 15 = .ok (.ireturn, 1) := by decide +kernel
theorem dX11_kept_16 : decode cX11_kept 16 = .ok (.iload_n 1, 1) := by decide +kernel
theorem dX11_kept_17 : decode cX11_kept 17 = .ok (.bipush 100, 2) := by decide +kernel
theorem dX11_kept_19 : decode cX11_kept 19 = .ok (.bipush 101, 2) := by decide +kernel
theorem dX11_kept_21 : decode cX11_kept 21 = .ok (.invokestatic 108, 3) := by decide +kernel
theorem dX11_kept_24 : decode cX11_kept 24 = .ok (.ifCond .ne 5, 3) := by decide +kernel
theorem dX11_kept_27 : decode cX11_kept 27 = .ok (.iconst (-1), 1) := by decide +kernel
theorem dX11_kept_28 : decode cX11_kept 28 = .ok (.ireturn, 1) := by decide +kernel
theorem dX11_kept_29 : decode cX11_kept 29 = .ok (.iconst 0, 1) := by decide +kernel
theorem dX11_kept_30 : decode cX11_kept 30 = .ok (.istore_n 2, 1) := by decide +kernel
theorem dX11_kept_31 : decode cX11_kept 31 = .ok (.aload_n 0, 1) := by decide +kernel
theorem dX11_kept_32 : decode cX11_kept 32 = .ok (.iconst 0, 1) := by decide +kernel
theorem dX11_kept_33 : decode cX11_kept 33 = .ok (.invokevirtual 283, 3) := by decide +kernel
theorem dX11_kept_36 : decode cX11_kept 36 = .ok (.istore_n 3, 1) := by decide +kernel
theorem dX11_kept_37 : decode cX11_kept 37 = .ok (.iconst 1, 1) := by decide +kernel
theorem dX11_kept_38 : decode cX11_kept 38 = .ok (.istore 4, 2) := by decide +kernel
theorem dX11_kept_40 : decode cX11_kept 40 = .ok (.iload 4, 2) := by decide +kernel
theorem dX11_kept_42 : decode cX11_kept 42 = .ok (.bipush 60, 2) := by decide +kernel
theorem dX11_kept_44 : decode cX11_kept 44 = .ok (.if_icmp .gt 29, 3) := by decide +kernel
theorem dX11_kept_47 : decode cX11_kept 47 = .ok (.aload_n 0, 1) := by decide +kernel
theorem dX11_kept_48 : decode cX11_kept 48 = .ok (.iload 4, 2) := by decide +kernel
theorem dX11_kept_50 : decode cX11_kept 50 = .ok (.invokevirtual 283, 3) := by decide +kernel
theorem dX11_kept_53 : decode cX11_kept 53 = .ok (.istore 5, 2) := by decide +kernel
theorem dX11_kept_55 : decode cX11_kept 55 = .ok (.iload 5, 2) := by decide +kernel
theorem dX11_kept_57 : decode cX11_kept 57 = .ok (.iload_n 3, 1) := by decide +kernel
theorem dX11_kept_58 : decode cX11_kept 58 = .ok (.if_icmp .le 9, 3) := by decide +kernel
theorem dX11_kept_61 : decode cX11_kept 61 = .ok (.iload 5, 2) := by decide +kernel
theorem dX11_kept_63 : decode cX11_kept 63 = .ok (.istore_n 3, 1) := by decide +kernel
theorem dX11_kept_64 : decode cX11_kept 64 = .ok (.iload 4, 2) := by decide +kernel
theorem dX11_kept_66 : decode cX11_kept 66 = .ok (.istore_n 2, 1) := by decide +kernel
theorem dX11_kept_67 : decode cX11_kept 67 = .ok (.iinc 4 1, 3) := by decide +kernel
theorem dX11_kept_70 : decode cX11_kept 70 = .ok (.goto (-30), 3) := by decide +kernel
theorem dX11_kept_73 : decode cX11_kept 73 = .ok (.iload_n 1, 1) := by decide +kernel
theorem dX11_kept_74 : decode cX11_kept 74 = .ok (.bipush 100, 2) := by decide +kernel
theorem dX11_kept_76 : decode cX11_kept 76 = .ok (.if_icmp .ne 7, 3) := by decide +kernel
theorem dX11_kept_79 : decode cX11_kept 79 = .ok (.iload_n 2, 1) := by decide +kernel
theorem dX11_kept_80 : decode cX11_kept 80 = .ok (.goto 4, 3) := by decide +kernel
theorem dX11_kept_83 : decode cX11_kept 83 = .ok (.iload_n 3, 1) := by decide +kernel
theorem dX11_kept_84 : decode cX11_kept 84 = .ok (.ireturn, 1) := by decide +kernel
set_option maxRecDepth 20000 in
theorem ggX11_heap_X11_isAmount : GoodIn wsX11_heap wsX11_isAmount := goodIn_r _ [6, 7, 8, 5, 9, 10, 11, 12] rfl (by decide +kernel)
set_option maxRecDepth 20000 in
theorem gX11_heap_X11_isAmount : GoodIn wsX11_heap (va_wsS RX11 198 yX11_isAmount wsX11_isAmount) := goodIn_app (goodIn_r _ [3, 4, 5] rfl (by decide +kernel)) ggX11_heap_X11_isAmount
set_option maxRecDepth 20000 in
theorem ggX11_heap_X11_within : GoodIn wsX11_heap wsX11_within := goodIn_r _ [12] rfl (by decide +kernel)
set_option maxRecDepth 20000 in
theorem gX11_heap_X11_within : GoodIn wsX11_heap (va_wsS RX11 108 yX11_within wsX11_within) := goodIn_app (goodIn_r _ [10, 11, 5] rfl (by decide +kernel)) ggX11_heap_X11_within
set_option maxRecDepth 20000 in
theorem ggX11_heap_X3_ways : GoodIn wsX11_heap wsX3_ways := goodIn_r _ [17, 18, 19, 20, 21, 22, 23, 16, 24, 25, 26, 27, 28, 11, 5, 12, 29, 30, 31, 32, 46, 47, 48, 49, 50, 51, 52, 53, 54] rfl (by decide +kernel)
set_option maxRecDepth 20000 in
theorem gX11_heap_X3_ways : GoodIn wsX11_heap (wsV RX11 286 RX3 yX3_ways wsX3_ways) := goodIn_app (goodIn_r _ [13, 14, 15, 16] rfl (by decide +kernel)) ggX11_heap_X3_ways
theorem dX11_heap_0 : decode cX11_heap 0 = .ok (.iload_n 1, 1) := by decide +kernel
theorem dX11_heap_1 : decode cX11_heap 1 = .ok (.invokestatic 198, 3) := by decide +kernel
theorem dX11_heap_4 : decode cX11_heap 4 = .ok (.ifCond .eq 14, 3) := by decide +kernel
theorem dX11_heap_7 : decode cX11_heap 7 = .ok (.iload_n 1, 1) := by decide +kernel
theorem dX11_heap_8 : decode cX11_heap 8 = .ok (.sipush 10000, 3) := by decide +kernel
theorem dX11_heap_11 : decode cX11_heap 11 = .ok (.irem, 1) := by decide +kernel
theorem dX11_heap_12 : decode cX11_heap 12 = .ok (.sipush 1200, 3) := by decide +kernel
theorem dX11_heap_15 : decode cX11_heap 15 = .ok (.if_icmp .le 5, 3) := by decide +kernel
theorem dX11_heap_18 : decode cX11_heap 18 = .ok (.iconst (-1), 1) := by decide +kernel
theorem dX11_heap_19 : decode cX11_heap 19 = .ok (.ireturn, 1) := by decide +kernel
theorem dX11_heap_20 : decode cX11_heap 20 = .ok (.iload_n 2, 1) := by decide +kernel
theorem dX11_heap_21 : decode cX11_heap 21 = .ok (.iconst 0, 1) := by decide +kernel
theorem dX11_heap_22 : decode cX11_heap 22 = .ok (.bipush 20, 2) := by decide +kernel
theorem dX11_heap_24 : decode cX11_heap 24 = .ok (.invokestatic 108, 3) := by decide +kernel
theorem dX11_heap_27 : decode cX11_heap 27 = .ok (.ifCond .eq 14, 3) := by decide +kernel
theorem dX11_heap_30 : decode cX11_heap 30 = .ok (.iload_n 3, 1) := by decide +kernel
theorem dX11_heap_31 : decode cX11_heap 31 = .ok (.iconst 0, 1) := by decide +kernel
theorem dX11_heap_32 : decode cX11_heap 32 = .ok (.sipush 1980, 3) := by decide +kernel
theorem dX11_heap_35 : decode cX11_heap 35 = .ok (.invokestatic 108, 3) := by decide +kernel
theorem dX11_heap_38 : decode cX11_heap 38 = .ok (.ifCond .ne 5, 3) := by decide +kernel
theorem dX11_heap_41 : decode cX11_heap 41 = .ok (.iconst (-1), 1) := by decide +kernel
theorem dX11_heap_42 : decode cX11_heap 42 = .ok (.ireturn, 1) := by decide +kernel
theorem dX11_heap_43 : decode cX11_heap 43 = .ok (.aload_n 0, 1) := by decide +kernel
theorem dX11_heap_44 : decode cX11_heap 44 = .ok (.getfield 54, 3) := by decide +kernel
theorem dX11_heap_47 : decode cX11_heap 47 = .ok (.aload_n 0, 1) := by decide +kernel
theorem dX11_heap_48 : decode cX11_heap 48 = .ok (.getfield 12, 3) := by decide +kernel
theorem dX11_heap_51 : decode cX11_heap 51 = .ok (.iload_n 1, 1) := by decide +kernel
theorem dX11_heap_52 : decode cX11_heap 52 = .ok (.sipush 10000, 3) := by decide +kernel
theorem dX11_heap_55 : decode cX11_heap 55 = .ok (.idiv, 1) := by decide +kernel
theorem dX11_heap_56 : decode cX11_heap 56 = .ok (.iload_n 2, 1) := by decide +kernel
theorem dX11_heap_57 : decode cX11_heap 57 = .ok (.iload_n 1, 1) := by decide +kernel
theorem dX11_heap_58 : decode cX11_heap 58 = .ok (.sipush 10000, 3) := by decide +kernel
theorem dX11_heap_61 : decode cX11_heap 61 = .ok (.irem, 1) := by decide +kernel
theorem dX11_heap_62 : decode cX11_heap 62 = .ok (.iload_n 3, 1) := by decide +kernel
theorem dX11_heap_63 : decode cX11_heap 63 = .ok (.invokevirtual 286, 3) := by decide +kernel
theorem dX11_heap_66 : decode cX11_heap 66 = .ok (.ireturn, 1) := by decide +kernel
set_option maxRecDepth 20000 in
theorem ggX11_give_X11_isLand : GoodIn wsX11_give wsX11_isLand := goodIn_r _ [6, 7, 8, 5, 9] rfl (by decide +kernel)
set_option maxRecDepth 20000 in
theorem gX11_give_X11_isLand : GoodIn wsX11_give (va_wsS RX11 132 yX11_isLand wsX11_isLand) := goodIn_app (goodIn_r _ [3, 4, 5] rfl (by decide +kernel)) ggX11_give_X11_isLand
set_option maxRecDepth 20000 in
theorem ggX11_give_X1_worthOf : GoodIn wsX11_give wsX1_worthOf := goodIn_r _ [14, 15, 16, 17, 18, 36, 37, 38, 39, 40, 41] rfl (by decide +kernel)
set_option maxRecDepth 20000 in
theorem gX11_give_X1_worthOf : GoodIn wsX11_give (wsV RX11 166 RX1 yX1_worthOf wsX1_worthOf) := goodIn_app (goodIn_r _ [10, 11, 12, 13] rfl (by decide +kernel)) ggX11_give_X1_worthOf
set_option maxRecDepth 20000 in
theorem ggX11_give_X1_emptyOut : GoodIn wsX11_give wsX1_emptyOut := goodIn_r _ [22, 15, 16, 18, 36, 37, 38, 39, 40, 41] rfl (by decide +kernel)
set_option maxRecDepth 20000 in
theorem gX11_give_X1_emptyOut : GoodIn wsX11_give (wsV RX11 290 RX1 yX1_emptyOut wsX1_emptyOut) := goodIn_app (goodIn_r _ [19, 20, 21, 13] rfl (by decide +kernel)) ggX11_give_X1_emptyOut
theorem dX11_give_0 : decode cX11_give 0 = .ok (.iload_n 1, 1) := by decide +kernel
theorem dX11_give_1 : decode cX11_give 1 = .ok (.invokestatic 132, 3) := by decide +kernel
theorem dX11_give_4 : decode cX11_give 4 = .ok (.ifCond .ne 5, 3) := by decide +kernel
theorem dX11_give_7 : decode cX11_give 7 = .ok (.iconst (-1), 1) := by decide +kernel
theorem dX11_give_8 : decode cX11_give 8 = .ok (.ireturn, 1) := by decide +kernel
theorem dX11_give_9 : decode cX11_give 9 = .ok (.aload_n 0, 1) := by decide +kernel
theorem dX11_give_10 : decode cX11_give 10 = .ok (.getfield 12, 3) := by decide +kernel
theorem dX11_give_13 : decode cX11_give 13 = .ok (.iload_n 1, 1) := by decide +kernel
theorem dX11_give_14 : decode cX11_give 14 = .ok (.invokevirtual 166, 3) := by decide +kernel
theorem dX11_give_17 : decode cX11_give 17 = .ok (.istore_n 2, 1) := by decide +kernel
theorem dX11_give_18 : decode cX11_give 18 = .ok (.aload_n 0, 1) := by decide +kernel
theorem dX11_give_19 : decode cX11_give 19 = .ok (.getfield 89, 3) := by decide +kernel
theorem dX11_give_22 : decode cX11_give 22 = .ok (.iconst 2, 1) := by decide +kernel
theorem dX11_give_23 : decode cX11_give 23 = .ok (.dup2, 1) := by decide +kernel
theorem dX11_give_24 : decode cX11_give 24 = .ok (.iaload, 1) := by decide +kernel
theorem dX11_give_25 : decode cX11_give 25 = .ok (.aload_n 0, 1) := by decide +kernel
theorem dX11_give_26 : decode cX11_give 26 = .ok (.getfield 12, 3) := by decide +kernel
theorem dX11_give_29 : decode cX11_give 29 = .ok (.iload_n 1, 1) := by decide +kernel
theorem dX11_give_30 : decode cX11_give 30 = .ok (.invokevirtual 290, 3) := by decide +kernel
theorem dX11_give_33 : decode cX11_give 33 = .ok (.iadd, 1) := by decide +kernel
theorem dX11_give_34 : decode cX11_give 34 = .ok (.iastore, 1) := by decide +kernel
theorem dX11_give_35 : decode cX11_give 35 = .ok (.iload_n 2, 1) := by decide +kernel
theorem dX11_give_36 : decode cX11_give 36 = .ok (.ireturn, 1) := by decide +kernel
set_option maxRecDepth 20000 in
theorem ggX11_led_X11_within : GoodIn wsX11_led wsX11_within := goodIn_r _ [5] rfl (by decide +kernel)
set_option maxRecDepth 20000 in
theorem gX11_led_X11_within : GoodIn wsX11_led (va_wsS RX11 108 yX11_within wsX11_within) := goodIn_app (goodIn_r _ [2, 3, 4] rfl (by decide +kernel)) ggX11_led_X11_within
theorem dX11_led_0 : decode cX11_led 0 = .ok (.iload_n 1, 1) := by decide +kernel
theorem dX11_led_1 : decode cX11_led 1 = .ok (.iconst 0, 1) := by decide +kernel
theorem dX11_led_2 : decode cX11_led 2 = .ok (.iconst 2, 1) := by decide +kernel
theorem dX11_led_3 : decode cX11_led 3 = .ok (.invokestatic 108, 3) := by decide +kernel
theorem dX11_led_6 : decode cX11_led 6 = .ok (.ifCond .eq 12, 3) := by decide +kernel
theorem dX11_led_9 : decode cX11_led 9 = .ok (.aload_n 0, 1) := by decide +kernel
theorem dX11_led_10 : decode cX11_led 10 = .ok (.getfield 89, 3) := by decide +kernel
theorem dX11_led_13 : decode cX11_led 13 = .ok (.iload_n 1, 1) := by decide +kernel
theorem dX11_led_14 : decode cX11_led 14 = .ok (.iaload, 1) := by decide +kernel
theorem dX11_led_15 : decode cX11_led 15 = .ok (.goto 4, 3) := by decide +kernel
theorem dX11_led_18 : decode cX11_led 18 = .ok (.iconst (-1), 1) := by decide +kernel
theorem dX11_led_19 : decode cX11_led 19 = .ok (.ireturn, 1) := by decide +kernel
set_option maxRecDepth 20000 in
theorem ggX11_image_X4_take : GoodIn wsX11_image wsX4_take := goodIn_r _ [9, 10, 11, 12, 13, 14, 15, 16, 17, 18, 19, 33, 34, 35, 36, 37, 38, 39, 40, 41, 42, 43, 44, 45, 46, 47, 48, 49] rfl (by decide +kernel)
set_option maxRecDepth 20000 in
theorem gX11_image_X4_take : GoodIn wsX11_image (wsV RX11 293 RX4 yX4_take wsX4_take) := goodIn_app (goodIn_r _ [5, 6, 7, 8] rfl (by decide +kernel)) ggX11_image_X4_take
theorem dX11_image_0 : decode cX11_image 0 = .ok (.aload_n 0, 1) := by decide +kernel
theorem dX11_image_1 : decode cX11_image 1 = .ok (.getfield 68, 3) := by decide +kernel
theorem dX11_image_4 : decode cX11_image 4 = .ok (.aload_n 0, 1) := by decide +kernel
theorem dX11_image_5 : decode cX11_image 5 = .ok (.getfield 12, 3) := by decide +kernel
theorem dX11_image_8 : decode cX11_image 8 = .ok (.aload_n 0, 1) := by decide +kernel
theorem dX11_image_9 : decode cX11_image 9 = .ok (.getfield 19, 3) := by decide +kernel
theorem dX11_image_12 : decode cX11_image 12 = .ok (.aload_n 0, 1) := by decide +kernel
theorem dX11_image_13 : decode cX11_image 13 = .ok (.getfield 89, 3) := by decide +kernel
theorem dX11_image_16 : decode cX11_image 16 = .ok (.invokevirtual 293, 3) := by decide +kernel
theorem dX11_image_19 : decode cX11_image 19 = .ok (.aload_n 0, 1) := by decide +kernel
theorem dX11_image_20 : decode cX11_image 20 = .ok (.getfield 12, 3) := by decide +kernel
theorem dX11_image_23 : decode cX11_image 23 = .ok (.getfield 100, 3) := by decide +kernel
theorem dX11_image_26 : decode cX11_image 26 = .ok (.ireturn, 1) := by decide +kernel
set_option maxRecDepth 20000 in
theorem ggX11_back_X4_restore : GoodIn wsX11_back wsX4_restore := goodIn_r _ [9, 10, 11, 12, 13, 14, 15, 16, 17, 18, 38, 39, 40, 41, 42, 43, 32, 33, 34, 35, 36, 37, 44, 45, 46, 47, 48] rfl (by decide +kernel)
set_option maxRecDepth 20000 in
theorem gX11_back_X4_restore : GoodIn wsX11_back (wsV RX11 301 RX4 yX4_restore wsX4_restore) := goodIn_app (goodIn_r _ [5, 6, 7, 8] rfl (by decide +kernel)) ggX11_back_X4_restore
theorem dX11_back_0 : decode cX11_back 0 = .ok (.aload_n 0, 1) := by decide +kernel
theorem dX11_back_1 : decode cX11_back 1 = .ok (.getfield 68, 3) := by decide +kernel
theorem dX11_back_4 : decode cX11_back 4 = .ok (.getfield 297, 3) := by decide +kernel
theorem dX11_back_7 : decode cX11_back 7 = .ok (.ifCond .ne 6, 3) := by decide +kernel
theorem dX11_back_10 : decode cX11_back 10 = .ok (.bipush (-5), 2) := by decide +kernel
theorem dX11_back_12 : decode cX11_back 12 = .ok (.ireturn, 1) := by decide +kernel
theorem dX11_back_13 : decode cX11_back 13 = .ok (.aload_n 0, 1) := by decide +kernel
theorem dX11_back_14 : decode cX11_back 14 = .ok (.getfield 68, 3) := by decide +kernel
theorem dX11_back_17 : decode cX11_back 17 = .ok (.aload_n 0, 1) := by decide +kernel
theorem dX11_back_18 : decode cX11_back 18 = .ok (.getfield 12, 3) := by decide +kernel
theorem dX11_back_21 : decode cX11_back 21 = .ok (.aload_n 0, 1) := by decide +kernel
theorem dX11_back_22 : decode cX11_back 22 = .ok (.getfield 19, 3) := by decide +kernel
theorem dX11_back_25 : decode cX11_back 25 = .ok (.aload_n 0, 1) := by decide +kernel
theorem dX11_back_26 : decode cX11_back 26 = .ok (.getfield 89, 3) := by decide +kernel
theorem dX11_back_29 : decode cX11_back 29 = .ok (.invokevirtual 301, 3) := by decide +kernel
theorem dX11_back_32 : decode cX11_back 32 = .ok (.aload_n 0, 1) := by decide +kernel
theorem dX11_back_33 : decode cX11_back 33 = .ok (.getfield 12, 3) := by decide +kernel
theorem dX11_back_36 : decode cX11_back 36 = .ok (.getfield 100, 3) := by decide +kernel
theorem dX11_back_39 : decode cX11_back 39 = .ok (.ireturn, 1) := by decide +kernel
set_option maxRecDepth 20000 in
theorem ggX11_undo_X0_stepBack : GoodIn wsX11_undo wsX0_stepBack := goodIn_r _ [6, 7, 28, 29, 30, 31, 32, 33] rfl (by decide +kernel)
set_option maxRecDepth 20000 in
theorem gX11_undo_X0_stepBack : GoodIn wsX11_undo (wsV RX11 304 RX0 yX0_stepBack wsX0_stepBack) := goodIn_app (goodIn_r _ [2, 3, 4, 5] rfl (by decide +kernel)) ggX11_undo_X0_stepBack
set_option maxRecDepth 20000 in
theorem ggX11_undo_X11_tell : GoodIn wsX11_undo wsX11_tell := goodIn_r _ [12, 13, 14, 15, 16, 17, 18, 19, 20, 21, 22, 23, 24, 25, 26, 27, 34, 35, 36, 37, 38, 39, 40, 41, 42, 43, 44] rfl (by decide +kernel)
set_option maxRecDepth 20000 in
theorem gX11_undo_X11_tell : GoodIn wsX11_undo (wsV RX11 153 RX11 yX11_tell wsX11_tell) := goodIn_app (goodIn_r _ [8, 9, 10, 11] rfl (by decide +kernel)) ggX11_undo_X11_tell
theorem dX11_undo_0 : decode cX11_undo 0 = .ok (.aload_n 0, 1) := by decide +kernel
theorem dX11_undo_1 : decode cX11_undo 1 = .ok (.getfield 61, 3) := by decide +kernel
theorem dX11_undo_4 : decode cX11_undo 4 = .ok (.invokevirtual 304, 3) := by decide +kernel
theorem dX11_undo_7 : decode cX11_undo 7 = .ok (.istore_n 1, 1) := by decide +kernel
theorem dX11_undo_8 : decode cX11_undo 8 = .ok (.iload_n 1, 1) := by decide +kernel
theorem dX11_undo_9 : decode cX11_undo 9 = .ok (.ifCond .ge 6, 3) := by decide +kernel
theorem dX11_undo_12 : decode cX11_undo 12 = .ok (.bipush (-5), 2) := by decide +kernel
theorem dX11_undo_14 : decode cX11_undo 14 = .ok (.ireturn, 1) := by decide +kernel
theorem dX11_undo_15 : decode cX11_undo 15 = .ok (.aload_n 0, 1) := by decide +kernel
theorem dX11_undo_16 : decode cX11_undo 16 = .ok (.aload_n 0, 1) := by decide +kernel
theorem dX11_undo_17 : decode cX11_undo 17 = .ok (.getfield 61, 3) := by decide +kernel
theorem dX11_undo_20 : decode cX11_undo 20 = .ok (.getfield 307, 3) := by decide +kernel
theorem dX11_undo_23 : decode cX11_undo 23 = .ok (.iload_n 1, 1) := by decide +kernel
theorem dX11_undo_24 : decode cX11_undo 24 = .ok (.iaload, 1) := by decide +kernel
theorem dX11_undo_25 : decode cX11_undo 25 = .ok (.aload_n 0, 1) := by decide +kernel
theorem dX11_undo_26 : decode cX11_undo 26 = .ok (.getfield 61, 3) := by decide +kernel
theorem dX11_undo_29 : decode cX11_undo 29 = .ok (.getfield 310, 3) := by decide +kernel
theorem dX11_undo_32 : decode cX11_undo 32 = .ok (.iload_n 1, 1) := by decide +kernel
theorem dX11_undo_33 : decode cX11_undo 33 = .ok (.iaload, 1) := by decide +kernel
theorem dX11_undo_34 : decode cX11_undo 34 = .ok (.aload_n 0, 1) := by decide +kernel
theorem dX11_undo_35 : decode cX11_undo 35 = .ok (.getfield 61, 3) := by decide +kernel
theorem dX11_undo_38 : decode cX11_undo 38 = .ok (.getfield 313, 3) := by decide +kernel
theorem dX11_undo_41 : decode cX11_undo 41 = .ok (.iload_n 1, 1) := by decide +kernel
theorem dX11_undo_42 : decode cX11_undo 42 = .ok (.iaload, 1) := by decide +kernel
theorem dX11_undo_43 : decode cX11_undo 43 = .ok (.invokevirtual 153, 3) := by decide +kernel
theorem dX11_undo_46 : decode cX11_undo 46 = .ok (.aload_n 0, 1) := by decide +kernel
theorem dX11_undo_47 : decode cX11_undo 47 = .ok (.getfield 61, 3) := by decide +kernel
theorem dX11_undo_50 : decode cX11_undo 50 = .ok (.getfield 316, 3) := by decide +kernel
theorem dX11_undo_53 : decode cX11_undo 53 = .ok (.ireturn, 1) := by decide +kernel
set_option maxRecDepth 20000 in
theorem ggX11_redo_X0_stepOn : GoodIn wsX11_redo wsX0_stepOn := goodIn_r _ [6, 7, 8, 29, 30, 31, 32, 33, 34] rfl (by decide +kernel)
set_option maxRecDepth 20000 in
theorem gX11_redo_X0_stepOn : GoodIn wsX11_redo (wsV RX11 319 RX0 yX0_stepOn wsX0_stepOn) := goodIn_app (goodIn_r _ [2, 3, 4, 5] rfl (by decide +kernel)) ggX11_redo_X0_stepOn
set_option maxRecDepth 20000 in
theorem ggX11_redo_X11_tell : GoodIn wsX11_redo wsX11_tell := goodIn_r _ [13, 14, 15, 16, 17, 18, 19, 20, 21, 22, 23, 24, 25, 26, 27, 28, 35, 36, 37, 38, 39, 40, 41, 42, 43, 44, 45] rfl (by decide +kernel)
set_option maxRecDepth 20000 in
theorem gX11_redo_X11_tell : GoodIn wsX11_redo (wsV RX11 153 RX11 yX11_tell wsX11_tell) := goodIn_app (goodIn_r _ [9, 10, 11, 12] rfl (by decide +kernel)) ggX11_redo_X11_tell
theorem dX11_redo_0 : decode cX11_redo 0 = .ok (.aload_n 0, 1) := by decide +kernel
theorem dX11_redo_1 : decode cX11_redo 1 = .ok (.getfield 61, 3) := by decide +kernel
theorem dX11_redo_4 : decode cX11_redo 4 = .ok (.invokevirtual 319, 3) := by decide +kernel
theorem dX11_redo_7 : decode cX11_redo 7 = .ok (.istore_n 1, 1) := by decide +kernel
theorem dX11_redo_8 : decode cX11_redo 8 = .ok (.iload_n 1, 1) := by decide +kernel
theorem dX11_redo_9 : decode cX11_redo 9 = .ok (.ifCond .ge 6, 3) := by decide +kernel
theorem dX11_redo_12 : decode cX11_redo 12 = .ok (.bipush (-5), 2) := by decide +kernel
theorem dX11_redo_14 : decode cX11_redo 14 = .ok (.ireturn, 1) := by decide +kernel
theorem dX11_redo_15 : decode cX11_redo 15 = .ok (.aload_n 0, 1) := by decide +kernel
theorem dX11_redo_16 : decode cX11_redo 16 = .ok (.aload_n 0, 1) := by decide +kernel
theorem dX11_redo_17 : decode cX11_redo 17 = .ok (.getfield 61, 3) := by decide +kernel
theorem dX11_redo_20 : decode cX11_redo 20 = .ok (.getfield 307, 3) := by decide +kernel
theorem dX11_redo_23 : decode cX11_redo 23 = .ok (.iload_n 1, 1) := by decide +kernel
theorem dX11_redo_24 : decode cX11_redo 24 = .ok (.iaload, 1) := by decide +kernel
theorem dX11_redo_25 : decode cX11_redo 25 = .ok (.aload_n 0, 1) := by decide +kernel
theorem dX11_redo_26 : decode cX11_redo 26 = .ok (.getfield 61, 3) := by decide +kernel
theorem dX11_redo_29 : decode cX11_redo 29 = .ok (.getfield 310, 3) := by decide +kernel
theorem dX11_redo_32 : decode cX11_redo 32 = .ok (.iload_n 1, 1) := by decide +kernel
theorem dX11_redo_33 : decode cX11_redo 33 = .ok (.iaload, 1) := by decide +kernel
theorem dX11_redo_34 : decode cX11_redo 34 = .ok (.aload_n 0, 1) := by decide +kernel
theorem dX11_redo_35 : decode cX11_redo 35 = .ok (.getfield 61, 3) := by decide +kernel
theorem dX11_redo_38 : decode cX11_redo 38 = .ok (.getfield 322, 3) := by decide +kernel
theorem dX11_redo_41 : decode cX11_redo 41 = .ok (.iload_n 1, 1) := by decide +kernel
theorem dX11_redo_42 : decode cX11_redo 42 = .ok (.iaload, 1) := by decide +kernel
theorem dX11_redo_43 : decode cX11_redo 43 = .ok (.invokevirtual 153, 3) := by decide +kernel
theorem dX11_redo_46 : decode cX11_redo 46 = .ok (.aload_n 0, 1) := by decide +kernel
theorem dX11_redo_47 : decode cX11_redo 47 = .ok (.getfield 61, 3) := by decide +kernel
theorem dX11_redo_50 : decode cX11_redo 50 = .ok (.getfield 325, 3) := by decide +kernel
theorem dX11_redo_53 : decode cX11_redo 53 = .ok (.aload_n 0, 1) := by decide +kernel
theorem dX11_redo_54 : decode cX11_redo 54 = .ok (.getfield 61, 3) := by decide +kernel
theorem dX11_redo_57 : decode cX11_redo 57 = .ok (.getfield 316, 3) := by decide +kernel
theorem dX11_redo_60 : decode cX11_redo 60 = .ok (.isub, 1) := by decide +kernel
theorem dX11_redo_61 : decode cX11_redo 61 = .ok (.ireturn, 1) := by decide +kernel
set_option maxRecDepth 20000 in
theorem ggX11_body_X11_within : GoodIn wsX11_body wsX11_within := goodIn_r _ [5] rfl (by decide +kernel)
set_option maxRecDepth 20000 in
theorem gX11_body_X11_within : GoodIn wsX11_body (va_wsS RX11 108 yX11_within wsX11_within) := goodIn_app (goodIn_r _ [2, 3, 4] rfl (by decide +kernel)) ggX11_body_X11_within
set_option maxRecDepth 20000 in
theorem ggX11_body_X2_add : GoodIn wsX11_body wsX2_add := goodIn_r _ [10, 11, 12, 26, 27, 28, 29, 30] rfl (by decide +kernel)
set_option maxRecDepth 20000 in
theorem gX11_body_X2_add : GoodIn wsX11_body (wsV RX11 328 RX2 yX2_add wsX2_add) := goodIn_app (goodIn_r _ [6, 7, 8, 9] rfl (by decide +kernel)) ggX11_body_X2_add
theorem dX11_body_0 : decode cX11_body 0 = .ok (.iload_n 1, 1) := by decide +kernel
theorem dX11_body_1 : decode cX11_body 1 = .ok (.iconst 0, 1) := by decide +kernel
theorem dX11_body_2 : decode cX11_body 2 = .ok (.bipush 7, 2) := by decide +kernel
theorem dX11_body_4 : decode cX11_body 4 = .ok (.invokestatic 108, 3) := by decide +kernel
theorem dX11_body_7 : decode cX11_body 7 = .ok (.ifCond .eq 14, 3) := by decide +kernel
theorem dX11_body_10 : decode cX11_body 10 = .ok (.aload_n 0, 1) := by decide +kernel
theorem dX11_body_11 : decode cX11_body 11 = .ok (.getfield 75, 3) := by decide +kernel
theorem dX11_body_14 : decode cX11_body 14 = .ok (.iload_n 1, 1) := by decide +kernel
theorem dX11_body_15 : decode cX11_body 15 = .ok (.invokevirtual 328, 3) := by decide +kernel
theorem dX11_body_18 : decode cX11_body 18 = .ok (.goto 4, 3) := by decide +kernel
theorem dX11_body_21 : decode cX11_body 21 = .ok (.iconst (-1), 1) := by decide +kernel
theorem dX11_body_22 : decode cX11_body 22 = .ok (.ireturn, 1) := by decide +kernel
set_option maxRecDepth 20000 in
theorem ggX11_act_X2_begin : GoodIn wsX11_act wsX2_begin := goodIn_r _ [6, 7, 8, 9, 10, 11, 5, 12, 13, 14, 15, 16, 17, 18, 19, 20, 21, 22, 23, 24, 25, 26, 27, 28, 29, 30, 31, 32, 33, 34, 35, 36, 37, 38, 39, 40, 54, 55, 56, 57, 58] rfl (by decide +kernel)
set_option maxRecDepth 20000 in
theorem gX11_act_X2_begin : GoodIn wsX11_act (wsV RX11 329 RX2 yX2_begin wsX2_begin) := goodIn_app (goodIn_r _ [2, 3, 4, 5] rfl (by decide +kernel)) ggX11_act_X2_begin
theorem dX11_act_0 : decode cX11_act 0 = .ok (.aload_n 0, 1) := by decide +kernel
theorem dX11_act_1 : decode cX11_act 1 = .ok (.getfield 75, 3) := by decide +kernel
theorem dX11_act_4 : decode cX11_act 4 = .ok (.iload_n 1, 1) := by decide +kernel
theorem dX11_act_5 : decode cX11_act 5 = .ok (.iload_n 2, 1) := by decide +kernel
theorem dX11_act_6 : decode cX11_act 6 = .ok (.iload_n 3, 1) := by decide +kernel
theorem dX11_act_7 : decode cX11_act 7 = .ok (.invokevirtual 329, 3) := by decide +kernel
theorem dX11_act_10 : decode cX11_act 10 = .ok (.ireturn, 1) := by decide +kernel
theorem dX11_trace_0 : decode cX11_trace 0 = .ok (.iload_n 1, 1) := by decide +kernel
theorem dX11_trace_1 : decode cX11_trace 1 = .ok (.ifCond .lt 32, 3) := by decide +kernel
theorem dX11_trace_4 : decode cX11_trace 4 = .ok (.iload_n 1, 1) := by decide +kernel
theorem dX11_trace_5 : decode cX11_trace 5 = .ok (.aload_n 0, 1) := by decide +kernel
theorem dX11_trace_6 : decode cX11_trace 6 = .ok (.getfield 75, 3) := by decide +kernel
theorem dX11_trace_9 : decode cX11_trace 9 = .ok (.getfield 332, 3) := by decide +kernel
theorem dX11_trace_12 : decode cX11_trace 12 = .ok (.if_icmp .ge 21, 3) := by decide +kernel
theorem dX11_trace_15 : decode cX11_trace 15 = .ok (.iload_n 1, 1) := by decide +kernel
theorem dX11_trace_16 : decode cX11_trace 16 = .ok (.bipush 24, 2) := by decide +kernel
theorem dX11_trace_18 : decode cX11_trace 18 = .ok (.if_icmp .ge 15, 3) := by decide +kernel
theorem dX11_trace_21 : decode cX11_trace 21 = .ok (.aload_n 0, 1) := by decide +kernel
theorem dX11_trace_22 : decode cX11_trace 22 = .ok (.getfield 75, 3) := by decide +kernel
theorem dX11_trace_25 : decode cX11_trace 25 = .ok (.getfield 335, 3) := by decide +kernel
theorem dX11_trace_28 : decode cX11_trace 28 = .ok (.iload_n 1, 1) := by decide +kernel
theorem dX11_trace_29 : decode cX11_trace 29 = .ok (.iaload, 1) := by decide +kernel
theorem dX11_trace_30 : decode cX11_trace 30 = .ok (.goto 4, 3) := by decide +kernel
theorem dX11_trace_33 : decode cX11_trace 33 = .ok (.iconst (-1), 1) := by decide +kernel
theorem dX11_trace_34 : decode cX11_trace 34 = .ok (.ireturn, 1) := by decide +kernel
set_option maxRecDepth 20000 in
theorem ggX11_keep_X11_isShelf : GoodIn wsX11_keep wsX11_isShelf := goodIn_r _ [6, 7, 8, 5, 9] rfl (by decide +kernel)
set_option maxRecDepth 20000 in
theorem gX11_keep_X11_isShelf : GoodIn wsX11_keep (va_wsS RX11 104 yX11_isShelf wsX11_isShelf) := goodIn_app (goodIn_r _ [3, 4, 5] rfl (by decide +kernel)) ggX11_keep_X11_isShelf
set_option maxRecDepth 20000 in
theorem ggX11_keep_X2_knows : GoodIn wsX11_keep wsX2_knows := goodIn_r _ [14, 15, 37, 38, 39, 40, 41] rfl (by decide +kernel)
set_option maxRecDepth 20000 in
theorem gX11_keep_X2_knows : GoodIn wsX11_keep (wsV RX11 338 RX2 yX2_knows wsX2_knows) := goodIn_app (goodIn_r _ [10, 11, 12, 13] rfl (by decide +kernel)) ggX11_keep_X2_knows
set_option maxRecDepth 20000 in
theorem ggX11_keep_X7_holdDeed : GoodIn wsX11_keep wsX7_holdDeed := goodIn_r _ [20, 21, 22, 23, 42, 43, 44, 45, 46] rfl (by decide +kernel)
set_option maxRecDepth 20000 in
theorem gX11_keep_X7_holdDeed : GoodIn wsX11_keep (wsV RX11 339 RX7 yX7_holdDeed wsX7_holdDeed) := goodIn_app (goodIn_r _ [16, 17, 18, 19] rfl (by decide +kernel)) ggX11_keep_X7_holdDeed
theorem dX11_keep_0 : decode cX11_keep 0 = .ok (.iload_n 1, 1) := by decide +kernel
theorem dX11_keep_1 : decode cX11_keep 1 = .ok (.invokestatic 104, 3) := by decide +kernel
theorem dX11_keep_4 : decode cX11_keep 4 = .ok (.ifCond .eq 19, 3) := by decide +kernel
theorem dX11_keep_7 : decode cX11_keep 7 = .ok (.iload_n 2, 1) := by decide +kernel
theorem dX11_keep_8 : decode cX11_keep 8 = .ok (.iconst (-1), 1) := by decide +kernel
theorem dX11_keep_9 : decode cX11_keep 9 = .ok (.if_icmp .eq 16, 3) := by decide +kernel
theorem dX11_keep_12 : decode cX11_keep 12 = .ok (.aload_n 0, 1) := by decide +kernel
theorem dX11_keep_13 : decode cX11_keep 13 = .ok (.getfield 75, 3) := by decide +kernel
theorem dX11_keep_16 : decode cX11_keep 16 = .ok (.iload_n 2, 1) := by decide +kernel
theorem dX11_keep_17 : decode cX11_keep 17 = .ok (.invokevirtual 338, 3) := by decide +kernel
theorem dX11_keep_20 : decode cX11_keep 20 = .ok (.ifCond .ne 5, 3) := by decide +kernel
theorem dX11_keep_23 : decode cX11_keep 23 = .ok (.iconst (-1), 1) := by decide +kernel
theorem dX11_keep_24 : decode cX11_keep 24 = .ok (.ireturn, 1) := by decide +kernel
theorem dX11_keep_25 : decode cX11_keep 25 = .ok (.aload_n 0, 1) := by decide +kernel
theorem dX11_keep_26 : decode cX11_keep 26 = .ok (.getfield 81, 3) := by decide +kernel
theorem dX11_keep_29 : decode cX11_keep 29 = .ok (.iload_n 1, 1) := by decide +kernel
theorem dX11_keep_30 : decode cX11_keep 30 = .ok (.aaload, 1) := by decide +kernel
theorem dX11_keep_31 : decode cX11_keep 31 = .ok (.iload_n 2, 1) := by decide +kernel
theorem dX11_keep_32 : decode cX11_keep 32 = .ok (.invokevirtual 339, 3) := by decide +kernel
theorem dX11_keep_35 : decode cX11_keep 35 = .ok (.iconst 1, 1) := by decide +kernel
theorem dX11_keep_36 : decode cX11_keep 36 = .ok (.ireturn, 1) := by decide +kernel
set_option maxRecDepth 20000 in
theorem ggX11_row_X11_isShelf : GoodIn wsX11_row wsX11_isShelf := goodIn_r _ [5, 6, 7, 4, 8] rfl (by decide +kernel)
set_option maxRecDepth 20000 in
theorem gX11_row_X11_isShelf : GoodIn wsX11_row (va_wsS RX11 104 yX11_isShelf wsX11_isShelf) := goodIn_app (goodIn_r _ [2, 3, 4] rfl (by decide +kernel)) ggX11_row_X11_isShelf
set_option maxRecDepth 20000 in
theorem ggX11_row_X11_within : GoodIn wsX11_row wsX11_within := goodIn_r _ [8] rfl (by decide +kernel)
set_option maxRecDepth 20000 in
theorem gX11_row_X11_within : GoodIn wsX11_row (va_wsS RX11 108 yX11_within wsX11_within) := goodIn_app (goodIn_r _ [6, 7, 4] rfl (by decide +kernel)) ggX11_row_X11_within
set_option maxRecDepth 20000 in
theorem ggX11_row_X7_holdRow : GoodIn wsX11_row wsX7_holdRow := goodIn_r _ [13, 14, 15, 16, 17, 18, 4, 19, 20, 21, 22, 23, 24, 25, 26, 27, 28, 29, 30, 44, 45, 46, 47, 48] rfl (by decide +kernel)
set_option maxRecDepth 20000 in
theorem gX11_row_X7_holdRow : GoodIn wsX11_row (wsV RX11 343 RX7 yX7_holdRow wsX7_holdRow) := goodIn_app (goodIn_r _ [9, 10, 11, 12] rfl (by decide +kernel)) ggX11_row_X7_holdRow
theorem dX11_row_0 : decode cX11_row 0 = .ok (.iload_n 1, 1) := by decide +kernel
theorem dX11_row_1 : decode cX11_row 1 = .ok (.invokestatic 104, 3) := by decide +kernel
theorem dX11_row_4 : decode cX11_row 4 = .ok (.ifCond .eq 18, 3) := by decide +kernel
theorem dX11_row_7 : decode cX11_row 7 = .ok (.iload_n 2, 1) := by decide +kernel
theorem dX11_row_8 : decode cX11_row 8 = .ok (.iconst 0, 1) := by decide +kernel
theorem dX11_row_9 : decode cX11_row 9 = .ok (.iconst 4, 1) := by decide +kernel
theorem dX11_row_10 : decode cX11_row 10 = .ok (.invokestatic 108, 3) := by decide +kernel
theorem dX11_row_13 : decode cX11_row 13 = .ok (.ifCond .eq 9, 3) := by decide +kernel
theorem dX11_row_16 : decode cX11_row 16 = .ok (.iload_n 3, 1) := by decide +kernel
theorem dX11_row_17 : decode cX11_row 17 = .ok (.bipush 60, 2) := by decide +kernel
theorem dX11_row_19 : decode cX11_row 19 = .ok (.if_icmp .le 5, 3) := by decide +kernel
theorem dX11_row_22 : decode cX11_row 22 = .ok (.iconst (-1), 1) := by decide +kernel
theorem dX11_row_23 : decode cX11_row 23 = .ok (.ireturn, 1) := by decide +kernel
theorem dX11_row_24 : decode cX11_row 24 = .ok (.iload_n 3, 1) := by decide +kernel
theorem dX11_row_25 : decode cX11_row 25 = .ok (.ifCond .ge 6, 3) := by decide +kernel
theorem dX11_row_28 : decode cX11_row 28 = .ok (.bipush (-14), 2) := by decide +kernel
theorem dX11_row_30 : decode cX11_row 30 = .ok (.ireturn, 1) := by decide +kernel
theorem dX11_row_31 : decode cX11_row 31 = .ok (.aload_n 0, 1) := by decide +kernel
theorem dX11_row_32 : decode cX11_row 32 = .ok (.getfield 81, 3) := by decide +kernel
theorem dX11_row_35 : decode cX11_row 35 = .ok (.iload_n 1, 1) := by decide +kernel
theorem dX11_row_36 : decode cX11_row 36 = .ok (.aaload, 1) := by decide +kernel
theorem dX11_row_37 : decode cX11_row 37 = .ok (.iload_n 2, 1) := by decide +kernel
theorem dX11_row_38 : decode cX11_row 38 = .ok (.iload_n 3, 1) := by decide +kernel
theorem dX11_row_39 : decode cX11_row 39 = .ok (.invokevirtual 343, 3) := by decide +kernel
theorem dX11_row_42 : decode cX11_row 42 = .ok (.iconst 1, 1) := by decide +kernel
theorem dX11_row_43 : decode cX11_row 43 = .ok (.ireturn, 1) := by decide +kernel
set_option maxRecDepth 20000 in
theorem ggX11_put_X11_refusalAt : GoodIn wsX11_put wsX11_refusalAt := goodIn_r _ [6, 1, 7, 8, 5, 9, 10, 11, 12, 13, 14, 15, 16, 17, 18, 30, 31, 32, 33, 34, 35, 36, 37, 38, 39, 40, 41, 42, 43, 44, 45, 46, 47] rfl (by decide +kernel)
set_option maxRecDepth 20000 in
theorem gX11_put_X11_refusalAt : GoodIn wsX11_put (wsV RX11 347 RX11 yX11_refusalAt wsX11_refusalAt) := goodIn_app (goodIn_r _ [2, 3, 4, 5] rfl (by decide +kernel)) ggX11_put_X11_refusalAt
set_option maxRecDepth 20000 in
theorem ggX11_put_X7_store : GoodIn wsX11_put wsX7_store := goodIn_r _ [22, 23, 24, 14, 15, 16, 17, 18, 25, 26, 27, 28, 29, 43, 44, 45, 46, 47] rfl (by decide +kernel)
set_option maxRecDepth 20000 in
theorem gX11_put_X7_store : GoodIn wsX11_put (wsV RX11 350 RX7 yX7_store wsX7_store) := goodIn_app (goodIn_r _ [19, 20, 21, 16] rfl (by decide +kernel)) ggX11_put_X7_store
theorem dX11_put_0 : decode cX11_put 0 = .ok (.aload_n 0, 1) := by decide +kernel
theorem dX11_put_1 : decode cX11_put 1 = .ok (.iload_n 1, 1) := by decide +kernel
theorem dX11_put_2 : decode cX11_put 2 = .ok (.iload_n 2, 1) := by decide +kernel
theorem dX11_put_3 : decode cX11_put 3 = .ok (.invokevirtual 347, 3) := by decide +kernel
theorem dX11_put_6 : decode cX11_put 6 = .ok (.istore 5, 2) := by decide +kernel
theorem dX11_put_8 : decode cX11_put 8 = .ok (.iload 5, 2) := by decide +kernel
theorem dX11_put_10 : decode cX11_put 10 = .ok (.ifCond .eq 6, 3) := by decide +kernel
theorem dX11_put_13 : decode cX11_put 13 = .ok (.iload 5, 2) := by decide +kernel
theorem dX11_put_15 : decode cX11_put 15 = .ok (.ireturn, 1) := by decide +kernel
theorem dX11_put_16 : decode cX11_put 16 = .ok (.aload_n 0, 1) := by decide +kernel
theorem dX11_put_17 : decode cX11_put 17 = .ok (.getfield 81, 3) := by decide +kernel
theorem dX11_put_20 : decode cX11_put 20 = .ok (.iload_n 1, 1) := by decide +kernel
theorem dX11_put_21 : decode cX11_put 21 = .ok (.aaload, 1) := by decide +kernel
theorem dX11_put_22 : decode cX11_put 22 = .ok (.iload_n 2, 1) := by decide +kernel
theorem dX11_put_23 : decode cX11_put 23 = .ok (.lload_n 3, 1) := by decide +kernel
theorem dX11_put_24 : decode cX11_put 24 = .ok (.invokevirtual 350, 3) := by decide +kernel
theorem dX11_put_27 : decode cX11_put 27 = .ok (.iconst 1, 1) := by decide +kernel
theorem dX11_put_28 : decode cX11_put 28 = .ok (.ireturn, 1) := by decide +kernel
set_option maxRecDepth 20000 in
theorem ggX11_element_X11_refusalAt : GoodIn wsX11_element wsX11_refusalAt := goodIn_r _ [7, 1, 8, 9, 6, 10, 11, 12, 13, 14, 15, 16, 17, 18, 19, 20, 21, 22, 23, 24, 25, 26, 27, 28, 29, 30, 31, 32, 33, 34, 35, 36, 37] rfl (by decide +kernel)
set_option maxRecDepth 20000 in
theorem gX11_element_X11_refusalAt : GoodIn wsX11_element (wsV RX11 347 RX11 yX11_refusalAt wsX11_refusalAt) := goodIn_app (goodIn_r _ [3, 4, 5, 6] rfl (by decide +kernel)) ggX11_element_X11_refusalAt
theorem dX11_element_0 : decode cX11_element 0 = .ok (.aload_n 0, 1) := by decide +kernel
theorem dX11_element_1 : decode cX11_element 1 = .ok (.iload_n 1, 1) := by decide +kernel
theorem dX11_element_2 : decode cX11_element 2 = .ok (.iload_n 2, 1) := by decide +kernel
theorem dX11_element_3 : decode cX11_element 3 = .ok (.invokevirtual 347, 3) := by decide +kernel
theorem dX11_element_6 : decode cX11_element 6 = .ok (.ifCond .ne 17, 3) := by decide +kernel
theorem dX11_element_9 : decode cX11_element 9 = .ok (.aload_n 0, 1) := by decide +kernel
theorem dX11_element_10 : decode cX11_element 10 = .ok (.getfield 81, 3) := by decide +kernel
theorem dX11_element_13 : decode cX11_element 13 = .ok (.iload_n 1, 1) := by decide +kernel
theorem dX11_element_14 : decode cX11_element 14 = .ok (.aaload, 1) := by decide +kernel
theorem dX11_element_15 : decode cX11_element 15 = .ok (.getfield 354, 3) := by decide +kernel
theorem dX11_element_18 : decode cX11_element 18 = .ok (.iload_n 2, 1) := by decide +kernel
theorem dX11_element_19 : decode cX11_element 19 = .ok (.laload, 1) := by decide +kernel
theorem dX11_element_20 : decode cX11_element 20 = .ok (.goto 6, 3) := by decide +kernel
theorem dX11_element_23 : decode cX11_element 23 = .ok (.ldc2_w 360, 3) := by decide +kernel
theorem dX11_element_26 : decode cX11_element 26 = .ok (.lreturn, 1) := by decide +kernel
set_option maxRecDepth 20000 in
theorem ggX11_shift_X11_isShelf : GoodIn wsX11_shift wsX11_isShelf := goodIn_r _ [9, 10, 11, 8, 12] rfl (by decide +kernel)
set_option maxRecDepth 20000 in
theorem gX11_shift_X11_isShelf : GoodIn wsX11_shift (va_wsS RX11 104 yX11_isShelf wsX11_isShelf) := goodIn_app (goodIn_r _ [6, 7, 8] rfl (by decide +kernel)) ggX11_shift_X11_isShelf
set_option maxRecDepth 20000 in
theorem ggX11_shift_X7_spans : GoodIn wsX11_shift wsX7_spans := goodIn_r _ [17, 18, 32, 33, 34, 35, 36] rfl (by decide +kernel)
set_option maxRecDepth 20000 in
theorem gX11_shift_X7_spans : GoodIn wsX11_shift (wsV RX11 362 RX7 yX7_spans wsX7_spans) := goodIn_app (goodIn_r _ [13, 14, 15, 16] rfl (by decide +kernel)) ggX11_shift_X7_spans
theorem dX11_shift_0 : decode cX11_shift 0 = .ok (.iload_n 1, 1) := by decide +kernel
theorem dX11_shift_1 : decode cX11_shift 1 = .ok (.invokestatic 104, 3) := by decide +kernel
theorem dX11_shift_4 : decode cX11_shift 4 = .ok (.ifCond .eq 10, 3) := by decide +kernel
theorem dX11_shift_7 : decode cX11_shift 7 = .ok (.iload_n 3, 1) := by decide +kernel
theorem dX11_shift_8 : decode cX11_shift 8 = .ok (.invokestatic 104, 3) := by decide +kernel
theorem dX11_shift_11 : decode cX11_shift 11 = .ok (.ifCond .ne 5, 3) := by decide +kernel
theorem dX11_shift_14 : decode cX11_shift 14 = .ok (.iconst (-1), 1) := by decide +kernel
theorem dX11_shift_15 : decode cX11_shift 15 = .ok (.ireturn, 1) := by decide +kernel
theorem dX11_shift_16 : decode cX11_shift 16 = .ok (.aload_n 0, 1) := by decide +kernel
theorem dX11_shift_17 : decode cX11_shift 17 = .ok (.getfield 81, 3) := by decide +kernel
theorem dX11_shift_20 : decode cX11_shift 20 = .ok (.iload_n 1, 1) := by decide +kernel
theorem dX11_shift_21 : decode cX11_shift 21 = .ok (.aaload, 1) := by decide +kernel
theorem dX11_shift_22 : decode cX11_shift 22 = .ok (.astore 6, 2) := by decide +kernel
theorem dX11_shift_24 : decode cX11_shift 24 = .ok (.aload_n 0, 1) := by decide +kernel
theorem dX11_shift_25 : decode cX11_shift 25 = .ok (.getfield 81, 3) := by decide +kernel
theorem dX11_shift_28 : decode cX11_shift 28 = .ok (.iload_n 3, 1) := by decide +kernel
theorem dX11_shift_29 : decode cX11_shift 29 = .ok (.aaload, 1) := by decide +kernel
theorem dX11_shift_30 : decode cX11_shift 30 = .ok (.astore 7, 2) := by decide +kernel
theorem dX11_shift_32 : decode cX11_shift 32 = .ok (.aload 6, 2) := by decide +kernel
theorem dX11_shift_34 : decode cX11_shift 34 = .ok (.getfield 112, 3) := by decide +kernel
theorem dX11_shift_37 : decode cX11_shift 37 = .ok (.ifCond .eq 11, 3) := by decide +kernel
theorem dX11_shift_40 : decode cX11_shift 40 = .ok (.aload 7, 2) := by decide +kernel
theorem dX11_shift_42 : decode cX11_shift 42 = .ok (.getfield 112, 3) := by decide +kernel
theorem dX11_shift_45 : decode cX11_shift 45 = .ok (.ifCond .ne 6, 3) := by decide +kernel
theorem dX11_shift_48 : decode cX11_shift 48 = .ok (.bipush (-11), 2) := by decide +kernel
theorem dX11_shift_50 : decode cX11_shift 50 = .ok (.ireturn, 1) := by decide +kernel
theorem dX11_shift_51 : decode cX11_shift 51 = .ok (.aload 6, 2) := by decide +kernel
theorem dX11_shift_53 : decode cX11_shift 53 = .ok (.getfield 112, 3) := by decide +kernel
theorem dX11_shift_56 : decode cX11_shift 56 = .ok (.iconst 2, 1) := by decide +kernel
theorem dX11_shift_57 : decode cX11_shift 57 = .ok (.if_icmp .ne 25, 3) := by decide +kernel
theorem dX11_shift_60 : decode cX11_shift 60 = .ok (.aload 7, 2) := by decide +kernel
theorem dX11_shift_62 : decode cX11_shift 62 = .ok (.getfield 112, 3) := by decide +kernel
theorem dX11_shift_65 : decode cX11_shift 65 = .ok (.iconst 2, 1) := by decide +kernel
theorem dX11_shift_66 : decode cX11_shift 66 = .ok (.if_icmp .ne 16, 3) := by decide +kernel
theorem dX11_shift_69 : decode cX11_shift 69 = .ok (.aload 6, 2) := by decide +kernel
theorem dX11_shift_71 : decode cX11_shift 71 = .ok (.getfield 115, 3) := by decide +kernel
theorem dX11_shift_74 : decode cX11_shift 74 = .ok (.aload 7, 2) := by decide +kernel
theorem dX11_shift_76 : decode cX11_shift 76 = .ok (.getfield 115, 3) := by decide +kernel
theorem dX11_shift_79 : decode cX11_shift 79 = .ok (.if_icmp .eq 6, 3) := by decide +kernel
theorem dX11_shift_82 : decode cX11_shift 82 = .ok (.bipush (-12), 2) := by decide +kernel
theorem dX11_shift_84 : decode cX11_shift 84 = .ok (.ireturn, 1) := by decide +kernel
theorem dX11_shift_85 : decode cX11_shift 85 = .ok (.aload 6, 2) := by decide +kernel
theorem dX11_shift_87 : decode cX11_shift 87 = .ok (.iload_n 2, 1) := by decide +kernel
theorem dX11_shift_88 : decode cX11_shift 88 = .ok (.iload 5, 2) := by decide +kernel
theorem dX11_shift_90 : decode cX11_shift 90 = .ok (.invokevirtual 362, 3) := by decide +kernel
theorem dX11_shift_93 : decode cX11_shift 93 = .ok (.ifCond .eq 15, 3) := by decide +kernel
theorem dX11_shift_96 : decode cX11_shift 96 = .ok (.aload 7, 2) := by decide +kernel
theorem dX11_shift_98 : decode cX11_shift 98 = .ok (.iload 4, 2) := by decide +kernel
theorem dX11_shift_100 : decode cX11_shift 100 = .ok (.iload 5, 2) := by decide +kernel
theorem dX11_shift_102 : decode cX11_shift 102 = .ok (.invokevirtual 362, 3) := by decide +kernel
theorem dX11_shift_105 : decode cX11_shift 105 = .ok (.ifCond .ne 6, 3) := by decide +kernel
theorem dX11_shift_108 : decode cX11_shift 108 = .ok (.bipush (-13), 2) := by decide +kernel
theorem dX11_shift_110 : decode cX11_shift 110 = .ok (.ireturn, 1) := by decide +kernel
theorem dX11_shift_111 : decode cX11_shift 111 = .ok (.aload 6, 2) := by decide +kernel
theorem dX11_shift_113 : decode cX11_shift 113 = .ok (.getfield 354, 3) := by decide +kernel
theorem dX11_shift_116 : decode cX11_shift 116 = .ok (.iload_n 2, 1) := by decide +kernel
theorem dX11_shift_117 : decode cX11_shift 117 = .ok (.aload 7, 2) := by decide +kernel
theorem dX11_shift_119 : decode cX11_shift 119 = .ok (.getfield 354, 3) := by decide +kernel
theorem dX11_shift_122 : decode cX11_shift 122 = .ok (.iload 4, 2) := by decide +kernel
theorem dX11_shift_124 : decode cX11_shift 124 = .ok (.iload 5, 2) := by decide +kernel
theorem dX11_shift_126 : decode cX11_shift 126 = .ok (.invokestatic 366, 3) := by decide +kernel
theorem dX11_shift_129 : decode cX11_shift 129 = .ok (.iload 5, 2) := by decide +kernel
theorem dX11_shift_131 : decode cX11_shift 131 = .ok (.ireturn, 1) := by decide +kernel
set_option maxRecDepth 20000 in
theorem ggX11_taken_X11_isShelf : GoodIn wsX11_taken wsX11_isShelf := goodIn_r _ [6, 7, 8, 5, 9] rfl (by decide +kernel)
set_option maxRecDepth 20000 in
theorem gX11_taken_X11_isShelf : GoodIn wsX11_taken (va_wsS RX11 104 yX11_isShelf wsX11_isShelf) := goodIn_app (goodIn_r _ [3, 4, 5] rfl (by decide +kernel)) ggX11_taken_X11_isShelf
set_option maxRecDepth 20000 in
theorem ggX11_taken_X11_within : GoodIn wsX11_taken wsX11_within := goodIn_r _ [9] rfl (by decide +kernel)
set_option maxRecDepth 20000 in
theorem gX11_taken_X11_within : GoodIn wsX11_taken (va_wsS RX11 108 yX11_within wsX11_within) := goodIn_app (goodIn_r _ [7, 8, 5] rfl (by decide +kernel)) ggX11_taken_X11_within
set_option maxRecDepth 20000 in
theorem ggX11_taken_X2_kindOf : GoodIn wsX11_taken wsX2_kindOf := goodIn_r _ [14, 15, 16, 17, 18, 13, 19, 20, 43, 44, 45, 46, 47] rfl (by decide +kernel)
set_option maxRecDepth 20000 in
theorem gX11_taken_X2_kindOf : GoodIn wsX11_taken (wsV RX11 375 RX2 yX2_kindOf wsX2_kindOf) := goodIn_app (goodIn_r _ [10, 11, 12, 13] rfl (by decide +kernel)) ggX11_taken_X2_kindOf
set_option maxRecDepth 20000 in
theorem ggX11_taken_X2_isUnder : GoodIn wsX11_taken wsX2_isUnder := goodIn_r _ [23, 24] rfl (by decide +kernel)
set_option maxRecDepth 20000 in
theorem gX11_taken_X2_isUnder : GoodIn wsX11_taken (va_wsS RX11 378 yX2_isUnder wsX2_isUnder) := goodIn_app (goodIn_r _ [21, 22, 13] rfl (by decide +kernel)) ggX11_taken_X2_isUnder
theorem dX11_taken_0 : decode cX11_taken 0 = .ok (.iload_n 1, 1) := by decide +kernel
theorem dX11_taken_1 : decode cX11_taken 1 = .ok (.invokestatic 104, 3) := by decide +kernel
theorem dX11_taken_4 : decode cX11_taken 4 = .ok (.ifCond .eq 13, 3) := by decide +kernel
theorem dX11_taken_7 : decode cX11_taken 7 = .ok (.iload_n 2, 1) := by decide +kernel
theorem dX11_taken_8 : decode cX11_taken 8 = .ok (.iconst 0, 1) := by decide +kernel
theorem dX11_taken_9 : decode cX11_taken 9 = .ok (.bipush 7, 2) := by decide +kernel
theorem dX11_taken_11 : decode cX11_taken 11 = .ok (.invokestatic 108, 3) := by decide +kernel
theorem dX11_taken_14 : decode cX11_taken 14 = .ok (.ifCond .ne 5, 3) := by decide +kernel
theorem dX11_taken_17 : decode cX11_taken 17 = .ok (.iconst (-1), 1) := by decide +kernel
theorem dX11_taken_18 : decode cX11_taken 18 = .ok (.ireturn, 1) := by decide +kernel
theorem dX11_taken_19 : decode cX11_taken 19 = .ok (.aload_n 0, 1) := by decide +kernel
theorem dX11_taken_20 : decode cX11_taken 20 = .ok (.getfield 81, 3) := by decide +kernel
theorem dX11_taken_23 : decode cX11_taken 23 = .ok (.iload_n 1, 1) := by decide +kernel
theorem dX11_taken_24 : decode cX11_taken 24 = .ok (.aaload, 1) := by decide +kernel
theorem dX11_taken_25 : decode cX11_taken 25 = .ok (.astore_n 3, 1) := by decide +kernel
theorem dX11_taken_26 : decode cX11_taken 26 = .ok (.aload_n 3, 1) := by decide +kernel
theorem dX11_taken_27 : decode cX11_taken 27 = .ok (.getfield 112, 3) := by decide +kernel
theorem dX11_taken_30 : decode cX11_taken 30 = .ok (.ifCond .ne 6, 3) := by decide +kernel
theorem dX11_taken_33 : decode cX11_taken 33 = .ok (.bipush (-11), 2) := by decide +kernel
theorem dX11_taken_35 : decode cX11_taken 35 = .ok (.ireturn, 1) := by decide +kernel
theorem dX11_taken_36 : decode cX11_taken 36 = .ok (.aload_n 3, 1) := by decide +kernel
theorem dX11_taken_37 : decode cX11_taken 37 = .ok (.getfield 112, 3) := by decide +kernel
theorem dX11_taken_40 : decode cX11_taken 40 = .ok (.iconst 1, 1) := by decide +kernel
theorem dX11_taken_41 : decode cX11_taken 41 = .ok (.if_icmp .eq 6, 3) := by decide +kernel
theorem dX11_taken_44 : decode cX11_taken 44 = .ok (.bipush (-12), 2) := by decide +kernel
theorem dX11_taken_46 : decode cX11_taken 46 = .ok (.ireturn, 1) := by decide +kernel
theorem dX11_taken_47 : decode cX11_taken 47 = .ok (.aload_n 0, 1) := by decide +kernel
theorem dX11_taken_48 : decode cX11_taken 48 = .ok (.getfield 75, 3) := by decide +kernel
theorem dX11_taken_51 : decode cX11_taken 51 = .ok (.aload_n 3, 1) := by decide +kernel
theorem dX11_taken_52 : decode cX11_taken 52 = .ok (.getfield 372, 3) := by decide +kernel
theorem dX11_taken_55 : decode cX11_taken 55 = .ok (.invokevirtual 375, 3) := by decide +kernel
theorem dX11_taken_58 : decode cX11_taken 58 = .ok (.istore 4, 2) := by decide +kernel
theorem dX11_taken_60 : decode cX11_taken 60 = .ok (.iload 4, 2) := by decide +kernel
theorem dX11_taken_62 : decode cX11_taken 62 = .ok (.iload_n 2, 1) := by decide +kernel
theorem dX11_taken_63 : decode cX11_taken 63 = .ok (.invokestatic 378, 3) := by decide +kernel
theorem dX11_taken_66 : decode cX11_taken 66 = .ok (.ifCond .eq 8, 3) := by decide +kernel
theorem dX11_taken_69 : decode cX11_taken 69 = .ok (.iload 4, 2) := by decide +kernel
theorem dX11_taken_71 : decode cX11_taken 71 = .ok (.goto 5, 3) := by decide +kernel
theorem dX11_taken_74 : decode cX11_taken 74 = .ok (.bipush (-12), 2) := by decide +kernel
theorem dX11_taken_76 : decode cX11_taken 76 = .ok (.ireturn, 1) := by decide +kernel
set_option maxRecDepth 20000 in
theorem ggX11_count_X1_heldInAll : GoodIn wsX11_count wsX1_heldInAll := goodIn_r _ [10, 11, 12, 26, 27, 28, 29, 30, 31] rfl (by decide +kernel)
set_option maxRecDepth 20000 in
theorem gX11_count_X1_heldInAll : GoodIn wsX11_count (wsV RX11 381 RX1 yX1_heldInAll wsX1_heldInAll) := goodIn_app (goodIn_r _ [6, 7, 8, 9] rfl (by decide +kernel)) ggX11_count_X1_heldInAll
theorem dX11_count_0 : decode cX11_count 0 = .ok (.iload_n 1, 1) := by decide +kernel
theorem dX11_count_1 : decode cX11_count 1 = .ok (.tableswitch 99 0 6 #[43, 51, 59, 67, 75, 83, 91], 43) := by decide +kernel
theorem dX11_count_44 : decode cX11_count 44 = .ok (.aload_n 0, 1) := by decide +kernel
theorem dX11_count_45 : decode cX11_count 45 = .ok (.getfield 12, 3) := by decide +kernel
theorem dX11_count_48 : decode cX11_count 48 = .ok (.getfield 100, 3) := by decide +kernel
theorem dX11_count_51 : decode cX11_count 51 = .ok (.ireturn, 1) := by decide +kernel
theorem dX11_count_52 : decode cX11_count 52 = .ok (.aload_n 0, 1) := by decide +kernel
theorem dX11_count_53 : decode cX11_count 53 = .ok (.getfield 19, 3) := by decide +kernel
theorem dX11_count_56 : decode cX11_count 56 = .ok (.getfield 131, 3) := by decide +kernel
theorem dX11_count_59 : decode cX11_count 59 = .ok (.ireturn, 1) := by decide +kernel
theorem dX11_count_60 : decode cX11_count 60 = .ok (.aload_n 0, 1) := by decide +kernel
theorem dX11_count_61 : decode cX11_count 61 = .ok (.getfield 12, 3) := by decide +kernel
theorem dX11_count_64 : decode cX11_count 64 = .ok (.invokevirtual 381, 3) := by decide +kernel
theorem dX11_count_67 : decode cX11_count 67 = .ok (.ireturn, 1) := by decide +kernel
theorem dX11_count_68 : decode cX11_count 68 = .ok (.aload_n 0, 1) := by decide +kernel
theorem dX11_count_69 : decode cX11_count 69 = .ok (.getfield 33, 3) := by decide +kernel
theorem dX11_count_72 : decode cX11_count 72 = .ok (.getfield 384, 3) := by decide +kernel
theorem dX11_count_75 : decode cX11_count 75 = .ok (.ireturn, 1) := by decide +kernel
theorem dX11_count_76 : decode cX11_count 76 = .ok (.aload_n 0, 1) := by decide +kernel
theorem dX11_count_77 : decode cX11_count 77 = .ok (.getfield 61, 3) := by decide +kernel
theorem dX11_count_80 : decode cX11_count 80 = .ok (.getfield 316, 3) := by decide +kernel
theorem dX11_count_83 : decode cX11_count 83 = .ok (.ireturn, 1) := by decide +kernel
theorem dX11_count_84 : decode cX11_count 84 = .ok (.aload_n 0, 1) := by decide +kernel
theorem dX11_count_85 : decode cX11_count 85 = .ok (.getfield 75, 3) := by decide +kernel
theorem dX11_count_88 : decode cX11_count 88 = .ok (.getfield 387, 3) := by decide +kernel
theorem dX11_count_91 : decode cX11_count 91 = .ok (.ireturn, 1) := by decide +kernel
theorem dX11_count_92 : decode cX11_count 92 = .ok (.aload_n 0, 1) := by decide +kernel
theorem dX11_count_93 : decode cX11_count 93 = .ok (.getfield 75, 3) := by decide +kernel
theorem dX11_count_96 : decode cX11_count 96 = .ok (.getfield 332, 3) := by decide +kernel
theorem dX11_count_99 : decode cX11_count 99 = .ok (.ireturn, 1) := by decide +kernel
theorem dX11_count_100 : decode cX11_count 100 = .ok (.iconst (-1), 1) := by decide +kernel
theorem dX11_count_101 : decode cX11_count 101 = .ok (.ireturn, 1) := by decide +kernel
theorem dX11_within_0 : decode cX11_within 0 = .ok (.iload_n 0, 1) := by decide +kernel
theorem dX11_within_1 : decode cX11_within 1 = .ok (.iload_n 1, 1) := by decide +kernel
theorem dX11_within_2 : decode cX11_within 2 = .ok (.if_icmp .lt 12, 3) := by decide +kernel
theorem dX11_within_5 : decode cX11_within 5 = .ok (.iload_n 0, 1) := by decide +kernel
theorem dX11_within_6 : decode cX11_within 6 = .ok (.iload_n 2, 1) := by decide +kernel
theorem dX11_within_7 : decode cX11_within 7 = .ok (.if_icmp .gt 7, 3) := by decide +kernel
theorem dX11_within_10 : decode cX11_within 10 = .ok (.iconst 1, 1) := by decide +kernel
theorem dX11_within_11 : decode cX11_within 11 = .ok (.goto 4, 3) := by decide +kernel
theorem dX11_within_14 : decode cX11_within 14 = .ok (.iconst 0, 1) := by decide +kernel
theorem dX11_within_15 : decode cX11_within 15 = .ok (.ireturn, 1) := by decide +kernel
theorem dX11_bounded_0 : decode cX11_bounded 0 = .ok (.iload_n 1, 1) := by decide +kernel
theorem dX11_bounded_1 : decode cX11_bounded 1 = .ok (.iload_n 2, 1) := by decide +kernel
theorem dX11_bounded_2 : decode cX11_bounded 2 = .ok (.iload_n 0, 1) := by decide +kernel
theorem dX11_bounded_3 : decode cX11_bounded 3 = .ok (.invokestatic 388, 3) := by decide +kernel
theorem dX11_bounded_6 : decode cX11_bounded 6 = .ok (.invokestatic 393, 3) := by decide +kernel
theorem dX11_bounded_9 : decode cX11_bounded 9 = .ok (.ireturn, 1) := by decide +kernel
set_option maxRecDepth 20000 in
theorem ggX11_isLand_X11_within : GoodIn wsX11_isLand wsX11_within := goodIn_r _ [4] rfl (by decide +kernel)
set_option maxRecDepth 20000 in
theorem gX11_isLand_X11_within : GoodIn wsX11_isLand (va_wsS RX11 108 yX11_within wsX11_within) := goodIn_app (goodIn_r _ [1, 2, 3] rfl (by decide +kernel)) ggX11_isLand_X11_within
theorem dX11_isLand_0 : decode cX11_isLand 0 = .ok (.iload_n 0, 1) := by decide +kernel
theorem dX11_isLand_1 : decode cX11_isLand 1 = .ok (.iconst 0, 1) := by decide +kernel
theorem dX11_isLand_2 : decode cX11_isLand 2 = .ok (.iconst 3, 1) := by decide +kernel
theorem dX11_isLand_3 : decode cX11_isLand 3 = .ok (.invokestatic 108, 3) := by decide +kernel
theorem dX11_isLand_6 : decode cX11_isLand 6 = .ok (.ireturn, 1) := by decide +kernel
set_option maxRecDepth 20000 in
theorem ggX11_isDay_X11_within : GoodIn wsX11_isDay wsX11_within := goodIn_r _ [4] rfl (by decide +kernel)
set_option maxRecDepth 20000 in
theorem gX11_isDay_X11_within : GoodIn wsX11_isDay (va_wsS RX11 108 yX11_within wsX11_within) := goodIn_app (goodIn_r _ [1, 2, 3] rfl (by decide +kernel)) ggX11_isDay_X11_within
theorem dX11_isDay_0 : decode cX11_isDay 0 = .ok (.iload_n 0, 1) := by decide +kernel
theorem dX11_isDay_1 : decode cX11_isDay 1 = .ok (.iconst 0, 1) := by decide +kernel
theorem dX11_isDay_2 : decode cX11_isDay 2 = .ok (.sipush 9999, 3) := by decide +kernel
theorem dX11_isDay_5 : decode cX11_isDay 5 = .ok (.invokestatic 108, 3) := by decide +kernel
theorem dX11_isDay_8 : decode cX11_isDay 8 = .ok (.ireturn, 1) := by decide +kernel
set_option maxRecDepth 20000 in
theorem ggX11_isShelf_X11_within : GoodIn wsX11_isShelf wsX11_within := goodIn_r _ [4] rfl (by decide +kernel)
set_option maxRecDepth 20000 in
theorem gX11_isShelf_X11_within : GoodIn wsX11_isShelf (va_wsS RX11 108 yX11_within wsX11_within) := goodIn_app (goodIn_r _ [1, 2, 3] rfl (by decide +kernel)) ggX11_isShelf_X11_within
theorem dX11_isShelf_0 : decode cX11_isShelf 0 = .ok (.iload_n 0, 1) := by decide +kernel
theorem dX11_isShelf_1 : decode cX11_isShelf 1 = .ok (.iconst 0, 1) := by decide +kernel
theorem dX11_isShelf_2 : decode cX11_isShelf 2 = .ok (.iconst 5, 1) := by decide +kernel
theorem dX11_isShelf_3 : decode cX11_isShelf 3 = .ok (.invokestatic 108, 3) := by decide +kernel
theorem dX11_isShelf_6 : decode cX11_isShelf 6 = .ok (.ireturn, 1) := by decide +kernel
set_option maxRecDepth 20000 in
theorem ggX11_isAmount_X11_isLand : GoodIn wsX11_isAmount wsX11_isLand := goodIn_r _ [4, 5, 6, 3, 7] rfl (by decide +kernel)
set_option maxRecDepth 20000 in
theorem gX11_isAmount_X11_isLand : GoodIn wsX11_isAmount (va_wsS RX11 132 yX11_isLand wsX11_isLand) := goodIn_app (goodIn_r _ [1, 2, 3] rfl (by decide +kernel)) ggX11_isAmount_X11_isLand
theorem dX11_isAmount_0 : decode cX11_isAmount 0 = .ok (.iload_n 0, 1) := by decide +kernel
theorem dX11_isAmount_1 : decode cX11_isAmount 1 = .ok (.ifCond .lt 18, 3) := by decide +kernel
theorem dX11_isAmount_4 : decode cX11_isAmount 4 = .ok (.iload_n 0, 1) := by decide +kernel
theorem dX11_isAmount_5 : decode cX11_isAmount 5 = .ok (.sipush 10000, 3) := by decide +kernel
theorem dX11_isAmount_8 : decode cX11_isAmount 8 = .ok (.idiv, 1) := by decide +kernel
theorem dX11_isAmount_9 : decode cX11_isAmount 9 = .ok (.invokestatic 132, 3) := by decide +kernel
theorem dX11_isAmount_12 : decode cX11_isAmount 12 = .ok (.ifCond .eq 7, 3) := by decide +kernel
theorem dX11_isAmount_15 : decode cX11_isAmount 15 = .ok (.iconst 1, 1) := by decide +kernel
theorem dX11_isAmount_16 : decode cX11_isAmount 16 = .ok (.goto 4, 3) := by decide +kernel
theorem dX11_isAmount_19 : decode cX11_isAmount 19 = .ok (.iconst 0, 1) := by decide +kernel
theorem dX11_isAmount_20 : decode cX11_isAmount 20 = .ok (.ireturn, 1) := by decide +kernel
set_option maxRecDepth 20000 in
theorem ggX11_isPair_X11_isLand : GoodIn wsX11_isPair wsX11_isLand := goodIn_r _ [4, 5, 6, 3, 7] rfl (by decide +kernel)
set_option maxRecDepth 20000 in
theorem gX11_isPair_X11_isLand : GoodIn wsX11_isPair (va_wsS RX11 132 yX11_isLand wsX11_isLand) := goodIn_app (goodIn_r _ [1, 2, 3] rfl (by decide +kernel)) ggX11_isPair_X11_isLand
theorem dX11_isPair_0 : decode cX11_isPair 0 = .ok (.iload_n 0, 1) := by decide +kernel
theorem dX11_isPair_1 : decode cX11_isPair 1 = .ok (.ifCond .lt 27, 3) := by decide +kernel
theorem dX11_isPair_4 : decode cX11_isPair 4 = .ok (.iload_n 0, 1) := by decide +kernel
theorem dX11_isPair_5 : decode cX11_isPair 5 = .ok (.bipush 10, 2) := by decide +kernel
theorem dX11_isPair_7 : decode cX11_isPair 7 = .ok (.idiv, 1) := by decide +kernel
theorem dX11_isPair_8 : decode cX11_isPair 8 = .ok (.invokestatic 132, 3) := by decide +kernel
theorem dX11_isPair_11 : decode cX11_isPair 11 = .ok (.ifCond .eq 17, 3) := by decide +kernel
theorem dX11_isPair_14 : decode cX11_isPair 14 = .ok (.iload_n 0, 1) := by decide +kernel
theorem dX11_isPair_15 : decode cX11_isPair 15 = .ok (.bipush 10, 2) := by decide +kernel
theorem dX11_isPair_17 : decode cX11_isPair 17 = .ok (.irem, 1) := by decide +kernel
theorem dX11_isPair_18 : decode cX11_isPair 18 = .ok (.invokestatic 132, 3) := by decide +kernel
theorem dX11_isPair_21 : decode cX11_isPair 21 = .ok (.ifCond .eq 7, 3) := by decide +kernel
theorem dX11_isPair_24 : decode cX11_isPair 24 = .ok (.iconst 1, 1) := by decide +kernel
theorem dX11_isPair_25 : decode cX11_isPair 25 = .ok (.goto 4, 3) := by decide +kernel
theorem dX11_isPair_28 : decode cX11_isPair 28 = .ok (.iconst 0, 1) := by decide +kernel
theorem dX11_isPair_29 : decode cX11_isPair 29 = .ok (.ireturn, 1) := by decide +kernel
set_option maxRecDepth 20000 in
theorem ggX11_isChange_X11_isPair : GoodIn wsX11_isChange wsX11_isPair := goodIn_r _ [4, 5, 6, 3, 7, 8, 9, 10] rfl (by decide +kernel)
set_option maxRecDepth 20000 in
theorem gX11_isChange_X11_isPair : GoodIn wsX11_isChange (va_wsS RX11 188 yX11_isPair wsX11_isPair) := goodIn_app (goodIn_r _ [1, 2, 3] rfl (by decide +kernel)) ggX11_isChange_X11_isPair
theorem dX11_isChange_0 : decode cX11_isChange 0 = .ok (.iload_n 0, 1) := by decide +kernel
theorem dX11_isChange_1 : decode cX11_isChange 1 = .ok (.invokestatic 188, 3) := by decide +kernel
theorem dX11_isChange_4 : decode cX11_isChange 4 = .ok (.ifCond .eq 18, 3) := by decide +kernel
theorem dX11_isChange_7 : decode cX11_isChange 7 = .ok (.iload_n 0, 1) := by decide +kernel
theorem dX11_isChange_8 : decode cX11_isChange 8 = .ok (.bipush 10, 2) := by decide +kernel
theorem dX11_isChange_10 : decode cX11_isChange 10 = .ok (.idiv, 1) := by decide +kernel
theorem dX11_isChange_11 : decode cX11_isChange 11 = .ok (.iload_n 0, 1) := by decide +kernel
theorem dX11_isChange_12 : decode cX11_isChange 12 = .ok (.bipush 10, 2) := by decide +kernel
theorem dX11_isChange_14 : decode cX11_isChange 14 = .ok (.irem, 1) := by decide +kernel
theorem dX11_isChange_15 : decode cX11_isChange 15 = .ok (.if_icmp .eq 7, 3) := by decide +kernel
theorem dX11_isChange_18 : decode cX11_isChange 18 = .ok (.iconst 1, 1) := by decide +kernel
theorem dX11_isChange_19 : decode cX11_isChange 19 = .ok (.goto 4, 3) := by decide +kernel
theorem dX11_isChange_22 : decode cX11_isChange 22 = .ok (.iconst 0, 1) := by decide +kernel
theorem dX11_isChange_23 : decode cX11_isChange 23 = .ok (.ireturn, 1) := by decide +kernel
set_option maxRecDepth 20000 in
theorem ggX11_addFromRow_X7_spans : GoodIn wsX11_addFromRow wsX7_spans := goodIn_r _ [6, 7, 28, 29, 30, 31, 32] rfl (by decide +kernel)
set_option maxRecDepth 20000 in
theorem gX11_addFromRow_X7_spans : GoodIn wsX11_addFromRow (wsV RX11 362 RX7 yX7_spans wsX7_spans) := goodIn_app (goodIn_r _ [2, 3, 4, 5] rfl (by decide +kernel)) ggX11_addFromRow_X7_spans
set_option maxRecDepth 20000 in
theorem ggX11_addFromRow_X1_fits : GoodIn wsX11_addFromRow wsX1_fits := goodIn_r _ [11, 12, 13, 14, 15, 16, 17] rfl (by decide +kernel)
set_option maxRecDepth 20000 in
theorem gX11_addFromRow_X1_fits : GoodIn wsX11_addFromRow (va_wsS RX11 93 yX1_fits wsX1_fits) := goodIn_app (goodIn_r _ [8, 9, 10] rfl (by decide +kernel)) ggX11_addFromRow_X1_fits
set_option maxRecDepth 20000 in
theorem ggX11_addFromRow_X1_add : GoodIn wsX11_addFromRow wsX1_add := goodIn_r _ [21, 22, 23, 24, 25, 26, 27, 46, 47, 48, 49, 50, 51] rfl (by decide +kernel)
set_option maxRecDepth 20000 in
theorem gX11_addFromRow_X1_add : GoodIn wsX11_addFromRow (wsV RX11 97 RX1 yX1_add wsX1_add) := goodIn_app (goodIn_r _ [18, 19, 20, 10] rfl (by decide +kernel)) ggX11_addFromRow_X1_add
theorem dX11_addFromRow_0 : decode cX11_addFromRow 0 = .ok (.iload_n 2, 1) := by decide +kernel
theorem dX11_addFromRow_1 : decode cX11_addFromRow 1 = .ok (.iconst 4, 1) := by decide +kernel
theorem dX11_addFromRow_2 : decode cX11_addFromRow 2 = .ok (.iload_n 3, 1) := by decide +kernel
theorem dX11_addFromRow_3 : decode cX11_addFromRow 3 = .ok (.imul, 1) := by decide +kernel
theorem dX11_addFromRow_4 : decode cX11_addFromRow 4 = .ok (.iadd, 1) := by decide +kernel
theorem dX11_addFromRow_5 : decode cX11_addFromRow 5 = .ok (.istore 4, 2) := by decide +kernel
theorem dX11_addFromRow_7 : decode cX11_addFromRow 7 = .ok (.aload_n 1, 1) := by decide +kernel
theorem dX11_addFromRow_8 : decode cX11_addFromRow 8 = .ok (.iload 4, 2) := by decide +kernel
theorem dX11_addFromRow_10 : decode cX11_addFromRow 10 = .ok (.iconst 4, 1) := by decide +kernel
theorem dX11_addFromRow_11 : decode cX11_addFromRow 11 = .ok (.invokevirtual 362, 3) := by decide +kernel
theorem dX11_addFromRow_14 : decode cX11_addFromRow 14 = .ok (.ifCond .ne 5, 3) := by decide +kernel
theorem dX11_addFromRow_17 : decode cX11_addFromRow 17 = .ok (.iconst 0, 1) := by decide +kernel
theorem dX11_addFromRow_18 : decode cX11_addFromRow 18 = .ok (.ireturn, 1) := by decide +kernel
theorem dX11_addFromRow_19 : decode cX11_addFromRow 19 = .ok (.aload_n 1, 1) := by decide +kernel
theorem dX11_addFromRow_20 : decode cX11_addFromRow 20 = .ok (.getfield 354, 3) := by decide +kernel
theorem dX11_addFromRow_23 : decode cX11_addFromRow 23 = .ok (.iload 4, 2) := by decide +kernel
theorem dX11_addFromRow_25 : decode cX11_addFromRow 25 = .ok (.laload, 1) := by decide +kernel
theorem dX11_addFromRow_26 : decode cX11_addFromRow 26 = .ok (.l2i, 1) := by decide +kernel
theorem dX11_addFromRow_27 : decode cX11_addFromRow 27 = .ok (.istore 5, 2) := by decide +kernel
theorem dX11_addFromRow_29 : decode cX11_addFromRow 29 = .ok (.aload_n 1, 1) := by decide +kernel
theorem dX11_addFromRow_30 : decode cX11_addFromRow 30 = .ok (.getfield 354, 3) := by decide +kernel
theorem dX11_addFromRow_33 : decode cX11_addFromRow 33 = .ok (.iload 4, 2) := by decide +kernel
theorem dX11_addFromRow_35 : decode cX11_addFromRow 35 = .ok (.iconst 1, 1) := by decide +kernel
theorem dX11_addFromRow_36 : decode cX11_addFromRow 36 = .ok (.iadd, 1) := by decide +kernel
theorem dX11_addFromRow_37 : decode cX11_addFromRow 37 = .ok (.laload, 1) := by decide +kernel
theorem dX11_addFromRow_38 : decode cX11_addFromRow 38 = .ok (.l2i, 1) := by decide +kernel
theorem dX11_addFromRow_39 : decode cX11_addFromRow 39 = .ok (.istore 6, 2) := by decide +kernel
theorem dX11_addFromRow_41 : decode cX11_addFromRow 41 = .ok (.aload_n 1, 1) := by decide +kernel
theorem dX11_addFromRow_42 : decode cX11_addFromRow 42 = .ok (.getfield 354, 3) := by decide +kernel
theorem dX11_addFromRow_45 : decode cX11_addFromRow 45 = .ok (.iload 4, 2) := by decide +kernel
theorem dX11_addFromRow_47 : decode cX11_addFromRow 47 = .ok (.iconst 2, 1) := by decide +kernel
theorem dX11_addFromRow_48 : decode cX11_addFromRow 48 = .ok (.iadd, 1) := by decide +kernel
theorem dX11_addFromRow_49 : decode cX11_addFromRow 49 = .ok (.laload, 1) := by decide +kernel
theorem dX11_addFromRow_50 : decode cX11_addFromRow 50 = .ok (.l2i, 1) := by decide +kernel
theorem dX11_addFromRow_51 : decode cX11_addFromRow 51 = .ok (.istore 7, 2) := by decide +kernel
theorem dX11_addFromRow_53 : decode cX11_addFromRow 53 = .ok (.aload_n 1, 1) := by decide +kernel
theorem dX11_addFromRow_54 : decode cX11_addFromRow 54 = .ok (.getfield 354, 3) := by decide +kernel
theorem dX11_addFromRow_57 : decode cX11_addFromRow 57 = .ok (.iload 4, 2) := by decide +kernel
theorem dX11_addFromRow_59 : decode cX11_addFromRow 59 = .ok (.iconst 3, 1) := by decide +kernel
theorem dX11_addFromRow_60 : decode cX11_addFromRow 60 = .ok (.iadd, 1) := by decide +kernel
theorem dX11_addFromRow_61 : decode cX11_addFromRow 61 = .ok (.laload, 1) := by decide +kernel
theorem dX11_addFromRow_62 : decode cX11_addFromRow 62 = .ok (.l2i, 1) := by decide +kernel
theorem dX11_addFromRow_63 : decode cX11_addFromRow 63 = .ok (.istore 8, 2) := by decide +kernel
theorem dX11_addFromRow_65 : decode cX11_addFromRow 65 = .ok (.iload 5, 2) := by decide +kernel
theorem dX11_addFromRow_67 : decode cX11_addFromRow 67 = .ok (.iload 6, 2) := by decide +kernel
theorem dX11_addFromRow_69 : decode cX11_addFromRow 69 = .ok (.iload 7, 2) := by decide +kernel
theorem dX11_addFromRow_71 : decode cX11_addFromRow 71 = .ok (.iload 8, 2) := by decide +kernel
theorem dX11_addFromRow_73 : decode cX11_addFromRow 73 = .ok (.invokestatic 93, 3) := by decide +kernel
theorem dX11_addFromRow_76 : decode cX11_addFromRow 76 = .ok (.ifCond .eq 25, 3) := by decide +kernel
theorem dX11_addFromRow_79 : decode cX11_addFromRow 79 = .ok (.aload_n 0, 1) := by decide +kernel
theorem dX11_addFromRow_80 : decode cX11_addFromRow 80 = .ok (.getfield 12, 3) := by decide +kernel
theorem dX11_addFromRow_83 : decode cX11_addFromRow 83 = .ok (.iload 5, 2) := by decide +kernel
theorem dX11_addFromRow_85 : decode cX11_addFromRow 85 = .ok (.iload 6, 2) := by decide +kernel
theorem dX11_addFromRow_87 : decode cX11_addFromRow 87 = .ok (.iload 7, 2) := by decide +kernel
theorem dX11_addFromRow_89 : decode cX11_addFromRow 89 = .ok (.iload 8, 2) := by decide +kernel
theorem dX11_addFromRow_91 : decode cX11_addFromRow 91 = .ok (.invokevirtual 97, 3) := by decide +kernel
theorem dX11_addFromRow_94 : decode cX11_addFromRow 94 = .ok (.ifCond .eq 7, 3) := by decide +kernel
theorem dX11_addFromRow_97 : decode cX11_addFromRow 97 = .ok (.iconst 1, 1) := by decide +kernel
theorem dX11_addFromRow_98 : decode cX11_addFromRow 98 = .ok (.goto 4, 3) := by decide +kernel
theorem dX11_addFromRow_101 : decode cX11_addFromRow 101 = .ok (.iconst 0, 1) := by decide +kernel
theorem dX11_addFromRow_102 : decode cX11_addFromRow 102 = .ok (.ireturn, 1) := by decide +kernel
theorem dX11_mendable_0 : decode cX11_mendable 0 = .ok (.iload_n 2, 1) := by decide +kernel
theorem dX11_mendable_1 : decode cX11_mendable 1 = .ok (.tableswitch 71 0 3 #[31, 41, 51, 61], 31) := by decide +kernel
theorem dX11_mendable_32 : decode cX11_mendable 32 = .ok (.aload_n 0, 1) := by decide +kernel
theorem dX11_mendable_33 : decode cX11_mendable 33 = .ok (.getfield 12, 3) := by decide +kernel
theorem dX11_mendable_36 : decode cX11_mendable 36 = .ok (.getfield 254, 3) := by decide +kernel
theorem dX11_mendable_39 : decode cX11_mendable 39 = .ok (.iload_n 1, 1) := by decide +kernel
theorem dX11_mendable_40 : decode cX11_mendable 40 = .ok (.iaload, 1) := by decide +kernel
theorem dX11_mendable_41 : decode cX11_mendable 41 = .ok (.ireturn, 1) := by decide +kernel
theorem dX11_mendable_42 : decode cX11_mendable 42 = .ok (.aload_n 0, 1) := by decide +kernel
theorem dX11_mendable_43 : decode cX11_mendable 43 = .ok (.getfield 12, 3) := by decide +kernel
theorem dX11_mendable_46 : decode cX11_mendable 46 = .ok (.getfield 396, 3) := by decide +kernel
theorem dX11_mendable_49 : decode cX11_mendable 49 = .ok (.iload_n 1, 1) := by decide +kernel
theorem dX11_mendable_50 : decode cX11_mendable 50 = .ok (.iaload, 1) := by decide +kernel
theorem dX11_mendable_51 : decode cX11_mendable 51 = .ok (.ireturn, 1) := by decide +kernel
theorem dX11_mendable_52 : decode cX11_mendable 52 = .ok (.aload_n 0, 1) := by decide +kernel
theorem dX11_mendable_53 : decode cX11_mendable 53 = .ok (.getfield 12, 3) := by decide +kernel
theorem dX11_mendable_56 : decode cX11_mendable 56 = .ok (.getfield 399, 3) := by decide +kernel
theorem dX11_mendable_59 : decode cX11_mendable 59 = .ok (.iload_n 1, 1) := by decide +kernel
theorem dX11_mendable_60 : decode cX11_mendable 60 = .ok (.iaload, 1) := by decide +kernel
theorem dX11_mendable_61 : decode cX11_mendable 61 = .ok (.ireturn, 1) := by decide +kernel
theorem dX11_mendable_62 : decode cX11_mendable 62 = .ok (.aload_n 0, 1) := by decide +kernel
theorem dX11_mendable_63 : decode cX11_mendable 63 = .ok (.getfield 19, 3) := by decide +kernel
theorem dX11_mendable_66 : decode cX11_mendable 66 = .ok (.getfield 237, 3) := by decide +kernel
theorem dX11_mendable_69 : decode cX11_mendable 69 = .ok (.iload_n 1, 1) := by decide +kernel
theorem dX11_mendable_70 : decode cX11_mendable 70 = .ok (.iaload, 1) := by decide +kernel
theorem dX11_mendable_71 : decode cX11_mendable 71 = .ok (.ireturn, 1) := by decide +kernel
theorem dX11_mendable_72 : decode cX11_mendable 72 = .ok (.aload_n 0, 1) := by decide +kernel
theorem dX11_mendable_73 : decode cX11_mendable 73 = .ok (.getfield 19, 3) := by decide +kernel
theorem dX11_mendable_76 : decode cX11_mendable 76 = .ok (.getfield 402, 3) := by decide +kernel
theorem dX11_mendable_79 : decode cX11_mendable 79 = .ok (.iload_n 1, 1) := by decide +kernel
theorem dX11_mendable_80 : decode cX11_mendable 80 = .ok (.iaload, 1) := by decide +kernel
theorem dX11_mendable_81 : decode cX11_mendable 81 = .ok (.ireturn, 1) := by decide +kernel
theorem dX11_tell_0 : decode cX11_tell 0 = .ok (.iload_n 2, 1) := by decide +kernel
theorem dX11_tell_1 : decode cX11_tell 1 = .ok (.tableswitch 83 0 3 #[31, 44, 57, 70], 31) := by decide +kernel
theorem dX11_tell_32 : decode cX11_tell 32 = .ok (.aload_n 0, 1) := by decide +kernel
theorem dX11_tell_33 : decode cX11_tell 33 = .ok (.getfield 12, 3) := by decide +kernel
theorem dX11_tell_36 : decode cX11_tell 36 = .ok (.getfield 254, 3) := by decide +kernel
theorem dX11_tell_39 : decode cX11_tell 39 = .ok (.iload_n 1, 1) := by decide +kernel
theorem dX11_tell_40 : decode cX11_tell 40 = .ok (.iload_n 3, 1) := by decide +kernel
theorem dX11_tell_41 : decode cX11_tell 41 = .ok (.iastore, 1) := by decide +kernel
theorem dX11_tell_42 : decode cX11_tell 42 = .ok (.goto 52, 3) := by decide +kernel
theorem dX11_tell_45 : decode cX11_tell 45 = .ok (.aload_n 0, 1) := by decide +kernel
theorem dX11_tell_46 : decode cX11_tell 46 = .ok (.getfield 12, 3) := by decide +kernel
theorem dX11_tell_49 : decode cX11_tell 49 = .ok (.getfield 396, 3) := by decide +kernel
theorem dX11_tell_52 : decode cX11_tell 52 = .ok (.iload_n 1, 1) := by decide +kernel
theorem dX11_tell_53 : decode cX11_tell 53 = .ok (.iload_n 3, 1) := by decide +kernel
theorem dX11_tell_54 : decode cX11_tell 54 = .ok (.iastore, 1) := by decide +kernel
theorem dX11_tell_55 : decode cX11_tell 55 = .ok (.goto 39, 3) := by decide +kernel
theorem dX11_tell_58 : decode cX11_tell 58 = .ok (.aload_n 0, 1) := by decide +kernel
theorem dX11_tell_59 : decode cX11_tell 59 = .ok (.getfield 12, 3) := by decide +kernel
theorem dX11_tell_62 : decode cX11_tell 62 = .ok (.getfield 399, 3) := by decide +kernel
theorem dX11_tell_65 : decode cX11_tell 65 = .ok (.iload_n 1, 1) := by decide +kernel
theorem dX11_tell_66 : decode cX11_tell 66 = .ok (.iload_n 3, 1) := by decide +kernel
theorem dX11_tell_67 : decode cX11_tell 67 = .ok (.iastore, 1) := by decide +kernel
theorem dX11_tell_68 : decode cX11_tell 68 = .ok (.goto 26, 3) := by decide +kernel
theorem dX11_tell_71 : decode cX11_tell 71 = .ok (.aload_n 0, 1) := by decide +kernel
theorem dX11_tell_72 : decode cX11_tell 72 = .ok (.getfield 19, 3) := by decide +kernel
theorem dX11_tell_75 : decode cX11_tell 75 = .ok (.getfield 237, 3) := by decide +kernel
theorem dX11_tell_78 : decode cX11_tell 78 = .ok (.iload_n 1, 1) := by decide +kernel
theorem dX11_tell_79 : decode cX11_tell 79 = .ok (.iload_n 3, 1) := by decide +kernel
theorem dX11_tell_80 : decode cX11_tell 80 = .ok (.iastore, 1) := by decide +kernel
theorem dX11_tell_81 : decode cX11_tell 81 = .ok (.goto 13, 3) := by decide +kernel
theorem dX11_tell_84 : decode cX11_tell 84 = .ok (.aload_n 0, 1) := by decide +kernel
theorem dX11_tell_85 : decode cX11_tell 85 = .ok (.getfield 19, 3) := by decide +kernel
theorem dX11_tell_88 : decode cX11_tell 88 = .ok (.getfield 402, 3) := by decide +kernel
theorem dX11_tell_91 : decode cX11_tell 91 = .ok (.iload_n 1, 1) := by decide +kernel
theorem dX11_tell_92 : decode cX11_tell 92 = .ok (.iload_n 3, 1) := by decide +kernel
theorem dX11_tell_93 : decode cX11_tell 93 = .ok (.iastore, 1) := by decide +kernel
theorem dX11_tell_94 : decode cX11_tell 94 = .ok (.return_, 1) := by decide +kernel
theorem dX11_ofSort_0 : decode cX11_ofSort 0 = .ok (.iload_n 2, 1) := by decide +kernel
theorem dX11_ofSort_1 : decode cX11_ofSort 1 = .ok (.tableswitch 71 0 3 #[31, 41, 51, 61], 31) := by decide +kernel
theorem dX11_ofSort_32 : decode cX11_ofSort 32 = .ok (.aload_n 0, 1) := by decide +kernel
theorem dX11_ofSort_33 : decode cX11_ofSort 33 = .ok (.getfield 12, 3) := by decide +kernel
theorem dX11_ofSort_36 : decode cX11_ofSort 36 = .ok (.getfield 257, 3) := by decide +kernel
theorem dX11_ofSort_39 : decode cX11_ofSort 39 = .ok (.iload_n 1, 1) := by decide +kernel
theorem dX11_ofSort_40 : decode cX11_ofSort 40 = .ok (.iaload, 1) := by decide +kernel
theorem dX11_ofSort_41 : decode cX11_ofSort 41 = .ok (.ireturn, 1) := by decide +kernel
theorem dX11_ofSort_42 : decode cX11_ofSort 42 = .ok (.aload_n 0, 1) := by decide +kernel
theorem dX11_ofSort_43 : decode cX11_ofSort 43 = .ok (.getfield 12, 3) := by decide +kernel
theorem dX11_ofSort_46 : decode cX11_ofSort 46 = .ok (.getfield 254, 3) := by decide +kernel
theorem dX11_ofSort_49 : decode cX11_ofSort 49 = .ok (.iload_n 1, 1) := by decide +kernel
theorem dX11_ofSort_50 : decode cX11_ofSort 50 = .ok (.iaload, 1) := by decide +kernel
theorem dX11_ofSort_51 : decode cX11_ofSort 51 = .ok (.ireturn, 1) := by decide +kernel
theorem dX11_ofSort_52 : decode cX11_ofSort 52 = .ok (.aload_n 0, 1) := by decide +kernel
theorem dX11_ofSort_53 : decode cX11_ofSort 53 = .ok (.getfield 12, 3) := by decide +kernel
theorem dX11_ofSort_56 : decode cX11_ofSort 56 = .ok (.getfield 396, 3) := by decide +kernel
theorem dX11_ofSort_59 : decode cX11_ofSort 59 = .ok (.iload_n 1, 1) := by decide +kernel
theorem dX11_ofSort_60 : decode cX11_ofSort 60 = .ok (.iaload, 1) := by decide +kernel
theorem dX11_ofSort_61 : decode cX11_ofSort 61 = .ok (.ireturn, 1) := by decide +kernel
theorem dX11_ofSort_62 : decode cX11_ofSort 62 = .ok (.aload_n 0, 1) := by decide +kernel
theorem dX11_ofSort_63 : decode cX11_ofSort 63 = .ok (.getfield 12, 3) := by decide +kernel
theorem dX11_ofSort_66 : decode cX11_ofSort 66 = .ok (.getfield 399, 3) := by decide +kernel
theorem dX11_ofSort_69 : decode cX11_ofSort 69 = .ok (.iload_n 1, 1) := by decide +kernel
theorem dX11_ofSort_70 : decode cX11_ofSort 70 = .ok (.iaload, 1) := by decide +kernel
theorem dX11_ofSort_71 : decode cX11_ofSort 71 = .ok (.ireturn, 1) := by decide +kernel
theorem dX11_ofSort_72 : decode cX11_ofSort 72 = .ok (.aload_n 0, 1) := by decide +kernel
theorem dX11_ofSort_73 : decode cX11_ofSort 73 = .ok (.getfield 12, 3) := by decide +kernel
theorem dX11_ofSort_76 : decode cX11_ofSort 76 = .ok (.getfield 125, 3) := by decide +kernel
theorem dX11_ofSort_79 : decode cX11_ofSort 79 = .ok (.iload_n 1, 1) := by decide +kernel
theorem dX11_ofSort_80 : decode cX11_ofSort 80 = .ok (.iaload, 1) := by decide +kernel
theorem dX11_ofSort_81 : decode cX11_ofSort 81 = .ok (.ireturn, 1) := by decide +kernel
theorem dX11_ofThing_0 : decode cX11_ofThing 0 = .ok (.iload_n 2, 1) := by decide +kernel
theorem dX11_ofThing_1 : decode cX11_ofThing 1 = .ok (.tableswitch 57 10 12 #[27, 37, 47], 27) := by decide +kernel
theorem dX11_ofThing_28 : decode cX11_ofThing 28 = .ok (.aload_n 0, 1) := by decide +kernel
theorem dX11_ofThing_29 : decode cX11_ofThing 29 = .ok (.getfield 19, 3) := by decide +kernel
theorem dX11_ofThing_32 : decode cX11_ofThing 32 = .ok (.getfield 234, 3) := by decide +kernel
theorem dX11_ofThing_35 : decode cX11_ofThing 35 = .ok (.iload_n 1, 1) := by decide +kernel
theorem dX11_ofThing_36 : decode cX11_ofThing 36 = .ok (.iaload, 1) := by decide +kernel
theorem dX11_ofThing_37 : decode cX11_ofThing 37 = .ok (.ireturn, 1) := by decide +kernel
theorem dX11_ofThing_38 : decode cX11_ofThing 38 = .ok (.aload_n 0, 1) := by decide +kernel
theorem dX11_ofThing_39 : decode cX11_ofThing 39 = .ok (.getfield 19, 3) := by decide +kernel
theorem dX11_ofThing_42 : decode cX11_ofThing 42 = .ok (.getfield 237, 3) := by decide +kernel
theorem dX11_ofThing_45 : decode cX11_ofThing 45 = .ok (.iload_n 1, 1) := by decide +kernel
theorem dX11_ofThing_46 : decode cX11_ofThing 46 = .ok (.iaload, 1) := by decide +kernel
theorem dX11_ofThing_47 : decode cX11_ofThing 47 = .ok (.ireturn, 1) := by decide +kernel
theorem dX11_ofThing_48 : decode cX11_ofThing 48 = .ok (.aload_n 0, 1) := by decide +kernel
theorem dX11_ofThing_49 : decode cX11_ofThing 49 = .ok (.getfield 19, 3) := by decide +kernel
theorem dX11_ofThing_52 : decode cX11_ofThing 52 = .ok (.getfield 402, 3) := by decide +kernel
theorem dX11_ofThing_55 : decode cX11_ofThing 55 = .ok (.iload_n 1, 1) := by decide +kernel
theorem dX11_ofThing_56 : decode cX11_ofThing 56 = .ok (.iaload, 1) := by decide +kernel
theorem dX11_ofThing_57 : decode cX11_ofThing 57 = .ok (.ireturn, 1) := by decide +kernel
theorem dX11_ofThing_58 : decode cX11_ofThing 58 = .ok (.aload_n 0, 1) := by decide +kernel
theorem dX11_ofThing_59 : decode cX11_ofThing 59 = .ok (.getfield 19, 3) := by decide +kernel
theorem dX11_ofThing_62 : decode cX11_ofThing 62 = .ok (.getfield 231, 3) := by decide +kernel
theorem dX11_ofThing_65 : decode cX11_ofThing 65 = .ok (.iload_n 1, 1) := by decide +kernel
theorem dX11_ofThing_66 : decode cX11_ofThing 66 = .ok (.iaload, 1) := by decide +kernel
theorem dX11_ofThing_67 : decode cX11_ofThing 67 = .ok (.ireturn, 1) := by decide +kernel
set_option maxRecDepth 20000 in
theorem ggX11_leastSwap_X11_isFair : GoodIn wsX11_leastSwap wsX11_isFair := goodIn_r _ [6, 1, 7, 8, 9, 10, 11, 12, 13, 14, 15, 16, 17, 18, 19, 20, 21, 22, 23, 24, 25, 26, 27, 28, 29, 30, 31, 32, 33, 34, 35, 36, 37, 38, 5, 39, 40, 41, 42, 43, 44, 45, 46, 74, 75, 76, 77, 78, 79, 80, 81, 82, 83, 84, 85, 86, 87, 88, 89, 90, 91, 92, 93, 94, 95, 96, 97, 98, 99, 100, 101, 102, 103] rfl (by decide +kernel)
set_option maxRecDepth 20000 in
theorem gX11_leastSwap_X11_isFair : GoodIn wsX11_leastSwap (wsV RX11 405 RX11 yX11_isFair wsX11_isFair) := goodIn_app (goodIn_r _ [2, 3, 4, 5] rfl (by decide +kernel)) ggX11_leastSwap_X11_isFair
set_option maxRecDepth 20000 in
theorem ggX11_leastSwap_X11_helps : GoodIn wsX11_leastSwap wsX11_helps := goodIn_r _ [50, 1, 51, 52, 53, 54, 55, 56, 57, 58, 59, 60, 61, 62, 63, 64, 65, 66, 67, 68, 69, 70, 71, 72, 73, 74, 75, 76, 77, 78, 79, 80, 81, 82, 83, 84, 85, 86, 87, 88, 89, 90, 91, 92, 104, 105, 106, 107, 108] rfl (by decide +kernel)
set_option maxRecDepth 20000 in
theorem gX11_leastSwap_X11_helps : GoodIn wsX11_leastSwap (wsV RX11 409 RX11 yX11_helps wsX11_helps) := goodIn_app (goodIn_r _ [47, 48, 49, 5] rfl (by decide +kernel)) ggX11_leastSwap_X11_helps
theorem dX11_leastSwap_0 : decode cX11_leastSwap 0 = .ok (.iconst 0, 1) := by decide +kernel
theorem dX11_leastSwap_1 : decode cX11_leastSwap 1 = .ok (.istore 4, 2) := by decide +kernel
theorem dX11_leastSwap_3 : decode cX11_leastSwap 3 = .ok (.iload 4, 2) := by decide +kernel
theorem dX11_leastSwap_5 : decode cX11_leastSwap 5 = .ok (.aload_n 0, 1) := by decide +kernel
theorem dX11_leastSwap_6 : decode cX11_leastSwap 6 = .ok (.getfield 12, 3) := by decide +kernel
theorem dX11_leastSwap_9 : decode cX11_leastSwap 9 = .ok (.getfield 100, 3) := by decide +kernel
theorem dX11_leastSwap_12 : decode cX11_leastSwap 12 = .ok (.if_icmp .ge 117, 3) := by decide +kernel
theorem dX11_leastSwap_15 : decode cX11_leastSwap 15 = .ok (.iconst 0, 1) := by decide +kernel
theorem dX11_leastSwap_16 : decode cX11_leastSwap 16 = .ok (.istore 5, 2) := by decide +kernel
theorem dX11_leastSwap_18 : decode cX11_leastSwap 18 = .ok (.iload 5, 2) := by decide +kernel
theorem dX11_leastSwap_20 : decode cX11_leastSwap 20 = .ok (.aload_n 0, 1) := by decide +kernel
theorem dX11_leastSwap_21 : decode cX11_leastSwap 21 = .ok (.getfield 12, 3) := by decide +kernel
theorem dX11_leastSwap_24 : decode cX11_leastSwap 24 = .ok (.getfield 100, 3) := by decide +kernel
theorem dX11_leastSwap_27 : decode cX11_leastSwap 27 = .ok (.if_icmp .ge 96, 3) := by decide +kernel
theorem dX11_leastSwap_30 : decode cX11_leastSwap 30 = .ok (.iconst 1, 1) := by decide +kernel
theorem dX11_leastSwap_31 : decode cX11_leastSwap 31 = .ok (.istore 6, 2) := by decide +kernel
theorem dX11_leastSwap_33 : decode cX11_leastSwap 33 = .ok (.iload 6, 2) := by decide +kernel
theorem dX11_leastSwap_35 : decode cX11_leastSwap 35 = .ok (.iconst 3, 1) := by decide +kernel
theorem dX11_leastSwap_36 : decode cX11_leastSwap 36 = .ok (.if_icmp .gt 81, 3) := by decide +kernel
theorem dX11_leastSwap_39 : decode cX11_leastSwap 39 = .ok (.iload 6, 2) := by decide +kernel
theorem dX11_leastSwap_41 : decode cX11_leastSwap 41 = .ok (.iload_n 3, 1) := by decide +kernel
theorem dX11_leastSwap_42 : decode cX11_leastSwap 42 = .ok (.if_icmp .ge 75, 3) := by decide +kernel
theorem dX11_leastSwap_45 : decode cX11_leastSwap 45 = .ok (.iload_n 3, 1) := by decide +kernel
theorem dX11_leastSwap_46 : decode cX11_leastSwap 46 = .ok (.iload 6, 2) := by decide +kernel
theorem dX11_leastSwap_48 : decode cX11_leastSwap 48 = .ok (.isub, 1) := by decide +kernel
theorem dX11_leastSwap_49 : decode cX11_leastSwap 49 = .ok (.istore 7, 2) := by decide +kernel
theorem dX11_leastSwap_51 : decode cX11_leastSwap 51 = .ok (.iload 7, 2) := by decide +kernel
theorem dX11_leastSwap_53 : decode cX11_leastSwap 53 = .ok (.iconst 3, 1) := by decide +kernel
theorem dX11_leastSwap_54 : decode cX11_leastSwap 54 = .ok (.if_icmp .gt 57, 3) := by decide +kernel
theorem dX11_leastSwap_57 : decode cX11_leastSwap 57 = .ok (.aload_n 0, 1) := by decide +kernel
theorem dX11_leastSwap_58 : decode cX11_leastSwap 58 = .ok (.iload_n 2, 1) := by decide +kernel
theorem dX11_leastSwap_59 : decode cX11_leastSwap 59 = .ok (.iload 4, 2) := by decide +kernel
theorem dX11_leastSwap_61 : decode cX11_leastSwap 61 = .ok (.iload 6, 2) := by decide +kernel
theorem dX11_leastSwap_63 : decode cX11_leastSwap 63 = .ok (.iload 5, 2) := by decide +kernel
theorem dX11_leastSwap_65 : decode cX11_leastSwap 65 = .ok (.iload 7, 2) := by decide +kernel
theorem dX11_leastSwap_67 : decode cX11_leastSwap 67 = .ok (.invokevirtual 405, 3) := by decide +kernel
theorem dX11_leastSwap_70 : decode cX11_leastSwap 70 = .ok (.ifCond .eq 41, 3) := by decide +kernel
theorem dX11_leastSwap_73 : decode cX11_leastSwap 73 = .ok (.aload_n 0, 1) := by decide +kernel
theorem dX11_leastSwap_74 : decode cX11_leastSwap 74 = .ok (.iload_n 1, 1) := by decide +kernel
theorem dX11_leastSwap_75 : decode cX11_leastSwap 75 = .ok (.iload 4, 2) := by decide +kernel
theorem dX11_leastSwap_77 : decode cX11_leastSwap 77 = .ok (.iload 6, 2) := by decide +kernel
theorem dX11_leastSwap_79 : decode cX11_leastSwap 79 = .ok (.iload 5, 2) := by decide +kernel
theorem dX11_leastSwap_81 : decode cX11_leastSwap 81 = .ok (.iload 7, 2) := by decide +kernel
theorem dX11_leastSwap_83 : decode cX11_leastSwap 83 = .ok (.invokevirtual 409, 3) := by decide +kernel
theorem dX11_leastSwap_86 : decode cX11_leastSwap 86 = .ok (.ifCond .eq 25, 3) := by decide +kernel
theorem dX11_leastSwap_89 : decode cX11_leastSwap 89 = .ok (.iload 4, 2) := by decide +kernel
theorem dX11_leastSwap_91 : decode cX11_leastSwap 91 = .ok (.sipush 1000, 3) := by decide +kernel
theorem dX11_leastSwap_94 : decode cX11_leastSwap 94 = .ok (.imul, 1) := by decide +kernel
theorem dX11_leastSwap_95 : decode cX11_leastSwap 95 = .ok (.iload 6, 2) := by decide +kernel
theorem dX11_leastSwap_97 : decode cX11_leastSwap 97 = .ok (.bipush 100, 2) := by decide +kernel
theorem dX11_leastSwap_99 : decode cX11_leastSwap 99 = .ok (.imul, 1) := by decide +kernel
theorem dX11_leastSwap_100 : decode cX11_leastSwap 100 = .ok (.iadd, 1) := by decide +kernel
theorem dX11_leastSwap_101 : decode cX11_leastSwap 101 = .ok (.iload 5, 2) := by decide +kernel
theorem dX11_leastSwap_103 : decode cX11_leastSwap 103 = .ok (.bipush 10, 2) := by decide +kernel
theorem dX11_leastSwap_105 : decode cX11_leastSwap 105 = .ok (.imul, 1) := by decide +kernel
theorem dX11_leastSwap_106 : decode cX11_leastSwap 106 = .ok (.iadd, 1) := by decide +kernel
theorem dX11_leastSwap_107 : decode cX11_leastSwap 107 = .ok (.iload 7, 2) := by decide +kernel
theorem dX11_leastSwap_109 : decode cX11_leastSwap 109 = .ok (.iadd, 1) := by decide +kernel
theorem dX11_leastSwap_110 : decode cX11_leastSwap 110 = .ok (.ireturn, 1) := by decide +kernel
theorem dX11_leastSwap_111 : decode cX11_leastSwap 111 = .ok (.iinc 6 1, 3) := by decide +kernel
theorem dX11_leastSwap_114 : decode cX11_leastSwap 114 = .ok (.goto (-81), 3) := by decide +kernel
theorem dX11_leastSwap_117 : decode cX11_leastSwap 117 = .ok (.iinc 5 1, 3) := by decide +kernel
theorem dX11_leastSwap_120 : decode cX11_leastSwap 120 = .ok (.goto (-102), 3) := by decide +kernel
theorem dX11_leastSwap_123 : decode cX11_leastSwap 123 = .ok (.iinc 4 1, 3) := by decide +kernel
theorem dX11_leastSwap_126 : decode cX11_leastSwap 126 = .ok (.goto (-123), 3) := by decide +kernel
theorem dX11_leastSwap_129 : decode cX11_leastSwap 129 = .ok (.bipush (-2), 2) := by decide +kernel
theorem dX11_leastSwap_131 : decode cX11_leastSwap 131 = .ok (.ireturn, 1) := by decide +kernel
set_option maxRecDepth 20000 in
theorem ggX11_isFair_X10_exchanged : GoodIn wsX11_isFair wsX10_exchanged := goodIn_r _ [7, 8, 9, 10, 11, 6, 12, 13, 14, 15, 16, 17, 18, 19, 20, 21, 22, 23, 24, 25, 26, 27, 28, 29, 30, 31, 32, 33, 34, 35, 36, 37, 38, 39, 40, 41, 42, 62, 63, 64, 65, 66, 67, 68, 69, 70, 71, 72] rfl (by decide +kernel)
set_option maxRecDepth 20000 in
theorem gX11_isFair_X10_exchanged : GoodIn wsX11_isFair (wsV RX11 258 RX10 yX10_exchanged wsX10_exchanged) := goodIn_app (goodIn_r _ [3, 4, 5, 6] rfl (by decide +kernel)) ggX11_isFair_X10_exchanged
theorem dX11_isFair_0 : decode cX11_isFair 0 = .ok (.iload_n 2, 1) := by decide +kernel
theorem dX11_isFair_1 : decode cX11_isFair 1 = .ok (.iload 4, 2) := by decide +kernel
theorem dX11_isFair_3 : decode cX11_isFair 3 = .ok (.if_icmp .eq 34, 3) := by decide +kernel
theorem dX11_isFair_6 : decode cX11_isFair 6 = .ok (.aload_n 0, 1) := by decide +kernel
theorem dX11_isFair_7 : decode cX11_isFair 7 = .ok (.getfield 12, 3) := by decide +kernel
theorem dX11_isFair_10 : decode cX11_isFair 10 = .ok (.getfield 125, 3) := by decide +kernel
theorem dX11_isFair_13 : decode cX11_isFair 13 = .ok (.iload_n 2, 1) := by decide +kernel
theorem dX11_isFair_14 : decode cX11_isFair 14 = .ok (.iaload, 1) := by decide +kernel
theorem dX11_isFair_15 : decode cX11_isFair 15 = .ok (.iload_n 3, 1) := by decide +kernel
theorem dX11_isFair_16 : decode cX11_isFair 16 = .ok (.if_icmp .lt 21, 3) := by decide +kernel
theorem dX11_isFair_19 : decode cX11_isFair 19 = .ok (.aload_n 0, 1) := by decide +kernel
theorem dX11_isFair_20 : decode cX11_isFair 20 = .ok (.getfield 12, 3) := by decide +kernel
theorem dX11_isFair_23 : decode cX11_isFair 23 = .ok (.getfield 125, 3) := by decide +kernel
theorem dX11_isFair_26 : decode cX11_isFair 26 = .ok (.iload 4, 2) := by decide +kernel
theorem dX11_isFair_28 : decode cX11_isFair 28 = .ok (.iaload, 1) := by decide +kernel
theorem dX11_isFair_29 : decode cX11_isFair 29 = .ok (.iload 5, 2) := by decide +kernel
theorem dX11_isFair_31 : decode cX11_isFair 31 = .ok (.iadd, 1) := by decide +kernel
theorem dX11_isFair_32 : decode cX11_isFair 32 = .ok (.bipush 6, 2) := by decide +kernel
theorem dX11_isFair_34 : decode cX11_isFair 34 = .ok (.if_icmp .le 5, 3) := by decide +kernel
theorem dX11_isFair_37 : decode cX11_isFair 37 = .ok (.iconst 0, 1) := by decide +kernel
theorem dX11_isFair_38 : decode cX11_isFair 38 = .ok (.ireturn, 1) := by decide +kernel
theorem dX11_isFair_39 : decode cX11_isFair 39 = .ok (.aload_n 0, 1) := by decide +kernel
theorem dX11_isFair_40 : decode cX11_isFair 40 = .ok (.getfield 40, 3) := by decide +kernel
theorem dX11_isFair_43 : decode cX11_isFair 43 = .ok (.iload_n 3, 1) := by decide +kernel
theorem dX11_isFair_44 : decode cX11_isFair 44 = .ok (.aload_n 0, 1) := by decide +kernel
theorem dX11_isFair_45 : decode cX11_isFair 45 = .ok (.getfield 12, 3) := by decide +kernel
theorem dX11_isFair_48 : decode cX11_isFair 48 = .ok (.getfield 254, 3) := by decide +kernel
theorem dX11_isFair_51 : decode cX11_isFair 51 = .ok (.iload_n 2, 1) := by decide +kernel
theorem dX11_isFair_52 : decode cX11_isFair 52 = .ok (.iaload, 1) := by decide +kernel
theorem dX11_isFair_53 : decode cX11_isFair 53 = .ok (.imul, 1) := by decide +kernel
theorem dX11_isFair_54 : decode cX11_isFair 54 = .ok (.aload_n 0, 1) := by decide +kernel
theorem dX11_isFair_55 : decode cX11_isFair 55 = .ok (.getfield 12, 3) := by decide +kernel
theorem dX11_isFair_58 : decode cX11_isFair 58 = .ok (.getfield 257, 3) := by decide +kernel
theorem dX11_isFair_61 : decode cX11_isFair 61 = .ok (.iload_n 2, 1) := by decide +kernel
theorem dX11_isFair_62 : decode cX11_isFair 62 = .ok (.iaload, 1) := by decide +kernel
theorem dX11_isFair_63 : decode cX11_isFair 63 = .ok (.aload_n 0, 1) := by decide +kernel
theorem dX11_isFair_64 : decode cX11_isFair 64 = .ok (.getfield 12, 3) := by decide +kernel
theorem dX11_isFair_67 : decode cX11_isFair 67 = .ok (.getfield 257, 3) := by decide +kernel
theorem dX11_isFair_70 : decode cX11_isFair 70 = .ok (.iload 4, 2) := by decide +kernel
theorem dX11_isFair_72 : decode cX11_isFair 72 = .ok (.iaload, 1) := by decide +kernel
theorem dX11_isFair_73 : decode cX11_isFair 73 = .ok (.iload_n 1, 1) := by decide +kernel
theorem dX11_isFair_74 : decode cX11_isFair 74 = .ok (.invokevirtual 258, 3) := by decide +kernel
theorem dX11_isFair_77 : decode cX11_isFair 77 = .ok (.istore 6, 2) := by decide +kernel
theorem dX11_isFair_79 : decode cX11_isFair 79 = .ok (.iload 6, 2) := by decide +kernel
theorem dX11_isFair_81 : decode cX11_isFair 81 = .ok (.iload 5, 2) := by decide +kernel
theorem dX11_isFair_83 : decode cX11_isFair 83 = .ok (.aload_n 0, 1) := by decide +kernel
theorem dX11_isFair_84 : decode cX11_isFair 84 = .ok (.getfield 12, 3) := by decide +kernel
theorem dX11_isFair_87 : decode cX11_isFair 87 = .ok (.getfield 254, 3) := by decide +kernel
theorem dX11_isFair_90 : decode cX11_isFair 90 = .ok (.iload 4, 2) := by decide +kernel
theorem dX11_isFair_92 : decode cX11_isFair 92 = .ok (.iaload, 1) := by decide +kernel
theorem dX11_isFair_93 : decode cX11_isFair 93 = .ok (.imul, 1) := by decide +kernel
theorem dX11_isFair_94 : decode cX11_isFair 94 = .ok (.if_icmp .lt 7, 3) := by decide +kernel
theorem dX11_isFair_97 : decode cX11_isFair 97 = .ok (.iconst 1, 1) := by decide +kernel
theorem dX11_isFair_98 : decode cX11_isFair 98 = .ok (.goto 4, 3) := by decide +kernel
theorem dX11_isFair_101 : decode cX11_isFair 101 = .ok (.iconst 0, 1) := by decide +kernel
theorem dX11_isFair_102 : decode cX11_isFair 102 = .ok (.ireturn, 1) := by decide +kernel
set_option maxRecDepth 20000 in
theorem ggX11_helps_X5_spread : GoodIn wsX11_helps wsX5_spread := goodIn_r _ [11, 12, 13, 14, 15, 16, 17, 18, 19, 10, 20, 44, 45, 46, 47, 48, 38, 39, 40, 41, 42, 43] rfl (by decide +kernel)
set_option maxRecDepth 20000 in
theorem gX11_helps_X5_spread : GoodIn wsX11_helps (wsV RX11 208 RX5 yX5_spread wsX5_spread) := goodIn_app (goodIn_r _ [7, 8, 9, 10] rfl (by decide +kernel)) ggX11_helps_X5_spread
set_option maxRecDepth 20000 in
theorem ggX11_helps_X5_can : GoodIn wsX11_helps wsX5_can := goodIn_r _ [24, 12, 44, 45, 46, 47, 48] rfl (by decide +kernel)
set_option maxRecDepth 20000 in
theorem gX11_helps_X5_can : GoodIn wsX11_helps (wsV RX11 277 RX5 yX5_can wsX5_can) := goodIn_app (goodIn_r _ [21, 22, 23, 10] rfl (by decide +kernel)) ggX11_helps_X5_can
theorem dX11_helps_0 : decode cX11_helps 0 = .ok (.iload_n 1, 1) := by decide +kernel
theorem dX11_helps_1 : decode cX11_helps 1 = .ok (.sipush 10000, 3) := by decide +kernel
theorem dX11_helps_4 : decode cX11_helps 4 = .ok (.idiv, 1) := by decide +kernel
theorem dX11_helps_5 : decode cX11_helps 5 = .ok (.istore 6, 2) := by decide +kernel
theorem dX11_helps_7 : decode cX11_helps 7 = .ok (.aload_n 0, 1) := by decide +kernel
theorem dX11_helps_8 : decode cX11_helps 8 = .ok (.getfield 12, 3) := by decide +kernel
theorem dX11_helps_11 : decode cX11_helps 11 = .ok (.getfield 257, 3) := by decide +kernel
theorem dX11_helps_14 : decode cX11_helps 14 = .ok (.iload 4, 2) := by decide +kernel
theorem dX11_helps_16 : decode cX11_helps 16 = .ok (.iaload, 1) := by decide +kernel
theorem dX11_helps_17 : decode cX11_helps 17 = .ok (.iload 6, 2) := by decide +kernel
theorem dX11_helps_19 : decode cX11_helps 19 = .ok (.if_icmp .eq 5, 3) := by decide +kernel
theorem dX11_helps_22 : decode cX11_helps 22 = .ok (.iconst 0, 1) := by decide +kernel
theorem dX11_helps_23 : decode cX11_helps 23 = .ok (.ireturn, 1) := by decide +kernel
theorem dX11_helps_24 : decode cX11_helps 24 = .ok (.aload_n 0, 1) := by decide +kernel
theorem dX11_helps_25 : decode cX11_helps 25 = .ok (.getfield 12, 3) := by decide +kernel
theorem dX11_helps_28 : decode cX11_helps 28 = .ok (.getfield 125, 3) := by decide +kernel
theorem dX11_helps_31 : decode cX11_helps 31 = .ok (.iconst 0, 1) := by decide +kernel
theorem dX11_helps_32 : decode cX11_helps 32 = .ok (.aload_n 0, 1) := by decide +kernel
theorem dX11_helps_33 : decode cX11_helps 33 = .ok (.getfield 26, 3) := by decide +kernel
theorem dX11_helps_36 : decode cX11_helps 36 = .ok (.getfield 412, 3) := by decide +kernel
theorem dX11_helps_39 : decode cX11_helps 39 = .ok (.iconst 0, 1) := by decide +kernel
theorem dX11_helps_40 : decode cX11_helps 40 = .ok (.bipush 8, 2) := by decide +kernel
theorem dX11_helps_42 : decode cX11_helps 42 = .ok (.invokestatic 366, 3) := by decide +kernel
theorem dX11_helps_45 : decode cX11_helps 45 = .ok (.aload_n 0, 1) := by decide +kernel
theorem dX11_helps_46 : decode cX11_helps 46 = .ok (.getfield 26, 3) := by decide +kernel
theorem dX11_helps_49 : decode cX11_helps 49 = .ok (.getfield 412, 3) := by decide +kernel
theorem dX11_helps_52 : decode cX11_helps 52 = .ok (.iload_n 2, 1) := by decide +kernel
theorem dX11_helps_53 : decode cX11_helps 53 = .ok (.dup2, 1) := by decide +kernel
theorem dX11_helps_54 : decode cX11_helps 54 = .ok (.iaload, 1) := by decide +kernel
theorem dX11_helps_55 : decode cX11_helps 55 = .ok (.iload_n 3, 1) := by decide +kernel
theorem dX11_helps_56 : decode cX11_helps 56 = .ok (.isub, 1) := by decide +kernel
theorem dX11_helps_57 : decode cX11_helps 57 = .ok (.iastore, 1) := by decide +kernel
theorem dX11_helps_58 : decode cX11_helps 58 = .ok (.aload_n 0, 1) := by decide +kernel
theorem dX11_helps_59 : decode cX11_helps 59 = .ok (.getfield 26, 3) := by decide +kernel
theorem dX11_helps_62 : decode cX11_helps 62 = .ok (.getfield 412, 3) := by decide +kernel
theorem dX11_helps_65 : decode cX11_helps 65 = .ok (.iload 4, 2) := by decide +kernel
theorem dX11_helps_67 : decode cX11_helps 67 = .ok (.dup2, 1) := by decide +kernel
theorem dX11_helps_68 : decode cX11_helps 68 = .ok (.iaload, 1) := by decide +kernel
theorem dX11_helps_69 : decode cX11_helps 69 = .ok (.iload 5, 2) := by decide +kernel
theorem dX11_helps_71 : decode cX11_helps 71 = .ok (.iadd, 1) := by decide +kernel
theorem dX11_helps_72 : decode cX11_helps 72 = .ok (.iastore, 1) := by decide +kernel
theorem dX11_helps_73 : decode cX11_helps 73 = .ok (.aload_n 0, 1) := by decide +kernel
theorem dX11_helps_74 : decode cX11_helps 74 = .ok (.getfield 26, 3) := by decide +kernel
theorem dX11_helps_77 : decode cX11_helps 77 = .ok (.aload_n 0, 1) := by decide +kernel
theorem dX11_helps_78 : decode cX11_helps 78 = .ok (.getfield 12, 3) := by decide +kernel
theorem dX11_helps_81 : decode cX11_helps 81 = .ok (.aload_n 0, 1) := by decide +kernel
theorem dX11_helps_82 : decode cX11_helps 82 = .ok (.getfield 26, 3) := by decide +kernel
theorem dX11_helps_85 : decode cX11_helps 85 = .ok (.getfield 412, 3) := by decide +kernel
theorem dX11_helps_88 : decode cX11_helps 88 = .ok (.iload 6, 2) := by decide +kernel
theorem dX11_helps_90 : decode cX11_helps 90 = .ok (.invokevirtual 208, 3) := by decide +kernel
theorem dX11_helps_93 : decode cX11_helps 93 = .ok (.aload_n 0, 1) := by decide +kernel
theorem dX11_helps_94 : decode cX11_helps 94 = .ok (.getfield 26, 3) := by decide +kernel
theorem dX11_helps_97 : decode cX11_helps 97 = .ok (.iload_n 1, 1) := by decide +kernel
theorem dX11_helps_98 : decode cX11_helps 98 = .ok (.sipush 10000, 3) := by decide +kernel
theorem dX11_helps_101 : decode cX11_helps 101 = .ok (.irem, 1) := by decide +kernel
theorem dX11_helps_102 : decode cX11_helps 102 = .ok (.invokevirtual 277, 3) := by decide +kernel
theorem dX11_helps_105 : decode cX11_helps 105 = .ok (.ireturn, 1) := by decide +kernel
set_option maxRecDepth 20000 in
theorem ggX11_purseInYear_X11_yearsWorth : GoodIn wsX11_purseInYear wsX11_yearsWorth := goodIn_r _ [7, 2, 1, 8, 9, 10, 11, 12, 13, 14, 15, 16, 17, 18, 19, 20, 21, 22, 23, 24, 25, 26, 27, 28, 6, 29, 30, 31, 32, 33, 34, 35, 36, 37, 38, 39, 40, 41, 42, 43, 44, 45, 46, 47, 48, 49, 56, 57, 58, 59, 60, 50, 51, 52, 53, 54, 55] rfl (by decide +kernel)
set_option maxRecDepth 20000 in
theorem gX11_purseInYear_X11_yearsWorth : GoodIn wsX11_purseInYear (wsV RX11 416 RX11 yX11_yearsWorth wsX11_yearsWorth) := goodIn_app (goodIn_r _ [3, 4, 5, 6] rfl (by decide +kernel)) ggX11_purseInYear_X11_yearsWorth
theorem dX11_purseInYear_0 : decode cX11_purseInYear 0 = .ok (.iconst 0, 1) := by decide +kernel
theorem dX11_purseInYear_1 : decode cX11_purseInYear 1 = .ok (.istore_n 2, 1) := by decide +kernel
theorem dX11_purseInYear_2 : decode cX11_purseInYear 2 = .ok (.iconst 0, 1) := by decide +kernel
theorem dX11_purseInYear_3 : decode cX11_purseInYear 3 = .ok (.istore_n 3, 1) := by decide +kernel
theorem dX11_purseInYear_4 : decode cX11_purseInYear 4 = .ok (.iload_n 3, 1) := by decide +kernel
theorem dX11_purseInYear_5 : decode cX11_purseInYear 5 = .ok (.aload_n 0, 1) := by decide +kernel
theorem dX11_purseInYear_6 : decode cX11_purseInYear 6 = .ok (.getfield 12, 3) := by decide +kernel
theorem dX11_purseInYear_9 : decode cX11_purseInYear 9 = .ok (.getfield 100, 3) := by decide +kernel
theorem dX11_purseInYear_12 : decode cX11_purseInYear 12 = .ok (.if_icmp .ge 65, 3) := by decide +kernel
theorem dX11_purseInYear_15 : decode cX11_purseInYear 15 = .ok (.aload_n 0, 1) := by decide +kernel
theorem dX11_purseInYear_16 : decode cX11_purseInYear 16 = .ok (.getfield 12, 3) := by decide +kernel
theorem dX11_purseInYear_19 : decode cX11_purseInYear 19 = .ok (.getfield 254, 3) := by decide +kernel
theorem dX11_purseInYear_22 : decode cX11_purseInYear 22 = .ok (.iload_n 3, 1) := by decide +kernel
theorem dX11_purseInYear_23 : decode cX11_purseInYear 23 = .ok (.iaload, 1) := by decide +kernel
theorem dX11_purseInYear_24 : decode cX11_purseInYear 24 = .ok (.istore 4, 2) := by decide +kernel
theorem dX11_purseInYear_26 : decode cX11_purseInYear 26 = .ok (.aload_n 0, 1) := by decide +kernel
theorem dX11_purseInYear_27 : decode cX11_purseInYear 27 = .ok (.getfield 47, 3) := by decide +kernel
theorem dX11_purseInYear_30 : decode cX11_purseInYear 30 = .ok (.getfield 415, 3) := by decide +kernel
theorem dX11_purseInYear_33 : decode cX11_purseInYear 33 = .ok (.ifCond .eq 23, 3) := by decide +kernel
theorem dX11_purseInYear_36 : decode cX11_purseInYear 36 = .ok (.aload_n 0, 1) := by decide +kernel
theorem dX11_purseInYear_37 : decode cX11_purseInYear 37 = .ok (.getfield 12, 3) := by decide +kernel
theorem dX11_purseInYear_40 : decode cX11_purseInYear 40 = .ok (.getfield 125, 3) := by decide +kernel
theorem dX11_purseInYear_43 : decode cX11_purseInYear 43 = .ok (.iload_n 3, 1) := by decide +kernel
theorem dX11_purseInYear_44 : decode cX11_purseInYear 44 = .ok (.iaload, 1) := by decide +kernel
theorem dX11_purseInYear_45 : decode cX11_purseInYear 45 = .ok (.ifCond .le 11, 3) := by decide +kernel
theorem dX11_purseInYear_48 : decode cX11_purseInYear 48 = .ok (.aload_n 0, 1) := by decide +kernel
theorem dX11_purseInYear_49 : decode cX11_purseInYear 49 = .ok (.iload_n 3, 1) := by decide +kernel
theorem dX11_purseInYear_50 : decode cX11_purseInYear 50 = .ok (.iload_n 1, 1) := by decide +kernel
theorem dX11_purseInYear_51 : decode cX11_purseInYear 51 = .ok (.invokevirtual 416, 3) := by decide +kernel
theorem dX11_purseInYear_54 : decode cX11_purseInYear 54 = .ok (.istore 4, 2) := by decide +kernel
theorem dX11_purseInYear_56 : decode cX11_purseInYear 56 = .ok (.iload_n 2, 1) := by decide +kernel
theorem dX11_purseInYear_57 : decode cX11_purseInYear 57 = .ok (.aload_n 0, 1) := by decide +kernel
theorem dX11_purseInYear_58 : decode cX11_purseInYear 58 = .ok (.getfield 12, 3) := by decide +kernel
theorem dX11_purseInYear_61 : decode cX11_purseInYear 61 = .ok (.getfield 125, 3) := by decide +kernel
theorem dX11_purseInYear_64 : decode cX11_purseInYear 64 = .ok (.iload_n 3, 1) := by decide +kernel
theorem dX11_purseInYear_65 : decode cX11_purseInYear 65 = .ok (.iaload, 1) := by decide +kernel
theorem dX11_purseInYear_66 : decode cX11_purseInYear 66 = .ok (.iload 4, 2) := by decide +kernel
theorem dX11_purseInYear_68 : decode cX11_purseInYear 68 = .ok (.imul, 1) := by decide +kernel
theorem dX11_purseInYear_69 : decode cX11_purseInYear 69 = .ok (.iadd, 1) := by decide +kernel
theorem dX11_purseInYear_70 : decode cX11_purseInYear 70 = .ok (.istore_n 2, 1) := by decide +kernel
theorem dX11_purseInYear_71 : decode cX11_purseInYear 71 = .ok (.iinc 3 1, 3) := by decide +kernel
theorem dX11_purseInYear_74 : decode cX11_purseInYear 74 = .ok (.goto (-70), 3) := by decide +kernel
theorem dX11_purseInYear_77 : decode cX11_purseInYear 77 = .ok (.iload_n 2, 1) := by decide +kernel
theorem dX11_purseInYear_78 : decode cX11_purseInYear 78 = .ok (.ireturn, 1) := by decide +kernel
set_option maxRecDepth 20000 in
theorem ggX11_yearsWorth_X8_worked : GoodIn wsX11_yearsWorth wsX8_worked := goodIn_r _ [7, 8, 9, 10, 11, 12, 6, 13, 14, 15, 16, 17, 18, 19, 20, 21, 46, 47, 48, 49, 50] rfl (by decide +kernel)
set_option maxRecDepth 20000 in
theorem gX11_yearsWorth_X8_worked : GoodIn wsX11_yearsWorth (wsV RX11 422 RX8 yX8_worked wsX8_worked) := goodIn_app (goodIn_r _ [3, 4, 5, 6] rfl (by decide +kernel)) ggX11_yearsWorth_X8_worked
set_option maxRecDepth 20000 in
theorem ggX11_yearsWorth_X11_bounded : GoodIn wsX11_yearsWorth wsX11_bounded := goodIn_r _ [25, 26, 27, 28, 29, 30, 31, 32] rfl (by decide +kernel)
set_option maxRecDepth 20000 in
theorem gX11_yearsWorth_X11_bounded : GoodIn wsX11_yearsWorth (va_wsS RX11 425 yX11_bounded wsX11_bounded) := goodIn_app (goodIn_r _ [22, 23, 24] rfl (by decide +kernel)) ggX11_yearsWorth_X11_bounded
theorem dX11_yearsWorth_0 : decode cX11_yearsWorth 0 = .ok (.aload_n 0, 1) := by decide +kernel
theorem dX11_yearsWorth_1 : decode cX11_yearsWorth 1 = .ok (.getfield 47, 3) := by decide +kernel
theorem dX11_yearsWorth_4 : decode cX11_yearsWorth 4 = .ok (.getfield 419, 3) := by decide +kernel
theorem dX11_yearsWorth_7 : decode cX11_yearsWorth 7 = .ok (.iconst 3, 1) := by decide +kernel
theorem dX11_yearsWorth_8 : decode cX11_yearsWorth 8 = .ok (.aload_n 0, 1) := by decide +kernel
theorem dX11_yearsWorth_9 : decode cX11_yearsWorth 9 = .ok (.getfield 12, 3) := by decide +kernel
theorem dX11_yearsWorth_12 : decode cX11_yearsWorth 12 = .ok (.getfield 254, 3) := by decide +kernel
theorem dX11_yearsWorth_15 : decode cX11_yearsWorth 15 = .ok (.iload_n 1, 1) := by decide +kernel
theorem dX11_yearsWorth_16 : decode cX11_yearsWorth 16 = .ok (.iaload, 1) := by decide +kernel
theorem dX11_yearsWorth_17 : decode cX11_yearsWorth 17 = .ok (.iastore, 1) := by decide +kernel
theorem dX11_yearsWorth_18 : decode cX11_yearsWorth 18 = .ok (.aload_n 0, 1) := by decide +kernel
theorem dX11_yearsWorth_19 : decode cX11_yearsWorth 19 = .ok (.getfield 47, 3) := by decide +kernel
theorem dX11_yearsWorth_22 : decode cX11_yearsWorth 22 = .ok (.getfield 419, 3) := by decide +kernel
theorem dX11_yearsWorth_25 : decode cX11_yearsWorth 25 = .ok (.iconst 4, 1) := by decide +kernel
theorem dX11_yearsWorth_26 : decode cX11_yearsWorth 26 = .ok (.aload_n 0, 1) := by decide +kernel
theorem dX11_yearsWorth_27 : decode cX11_yearsWorth 27 = .ok (.getfield 12, 3) := by decide +kernel
theorem dX11_yearsWorth_30 : decode cX11_yearsWorth 30 = .ok (.getfield 257, 3) := by decide +kernel
theorem dX11_yearsWorth_33 : decode cX11_yearsWorth 33 = .ok (.iload_n 1, 1) := by decide +kernel
theorem dX11_yearsWorth_34 : decode cX11_yearsWorth 34 = .ok (.iaload, 1) := by decide +kernel
theorem dX11_yearsWorth_35 : decode cX11_yearsWorth 35 = .ok (.iastore, 1) := by decide +kernel
theorem dX11_yearsWorth_36 : decode cX11_yearsWorth 36 = .ok (.aload_n 0, 1) := by decide +kernel
theorem dX11_yearsWorth_37 : decode cX11_yearsWorth 37 = .ok (.getfield 47, 3) := by decide +kernel
theorem dX11_yearsWorth_40 : decode cX11_yearsWorth 40 = .ok (.getfield 419, 3) := by decide +kernel
theorem dX11_yearsWorth_43 : decode cX11_yearsWorth 43 = .ok (.iconst 5, 1) := by decide +kernel
theorem dX11_yearsWorth_44 : decode cX11_yearsWorth 44 = .ok (.aload_n 0, 1) := by decide +kernel
theorem dX11_yearsWorth_45 : decode cX11_yearsWorth 45 = .ok (.getfield 12, 3) := by decide +kernel
theorem dX11_yearsWorth_48 : decode cX11_yearsWorth 48 = .ok (.getfield 396, 3) := by decide +kernel
theorem dX11_yearsWorth_51 : decode cX11_yearsWorth 51 = .ok (.iload_n 1, 1) := by decide +kernel
theorem dX11_yearsWorth_52 : decode cX11_yearsWorth 52 = .ok (.iaload, 1) := by decide +kernel
theorem dX11_yearsWorth_53 : decode cX11_yearsWorth 53 = .ok (.iastore, 1) := by decide +kernel
theorem dX11_yearsWorth_54 : decode cX11_yearsWorth 54 = .ok (.aload_n 0, 1) := by decide +kernel
theorem dX11_yearsWorth_55 : decode cX11_yearsWorth 55 = .ok (.getfield 47, 3) := by decide +kernel
theorem dX11_yearsWorth_58 : decode cX11_yearsWorth 58 = .ok (.getfield 419, 3) := by decide +kernel
theorem dX11_yearsWorth_61 : decode cX11_yearsWorth 61 = .ok (.bipush 6, 2) := by decide +kernel
theorem dX11_yearsWorth_63 : decode cX11_yearsWorth 63 = .ok (.iload_n 2, 1) := by decide +kernel
theorem dX11_yearsWorth_64 : decode cX11_yearsWorth 64 = .ok (.iastore, 1) := by decide +kernel
theorem dX11_yearsWorth_65 : decode cX11_yearsWorth 65 = .ok (.aload_n 0, 1) := by decide +kernel
theorem dX11_yearsWorth_66 : decode cX11_yearsWorth 66 = .ok (.getfield 47, 3) := by decide +kernel
theorem dX11_yearsWorth_69 : decode cX11_yearsWorth 69 = .ok (.invokevirtual 422, 3) := by decide +kernel
theorem dX11_yearsWorth_72 : decode cX11_yearsWorth 72 = .ok (.iconst 0, 1) := by decide +kernel
theorem dX11_yearsWorth_73 : decode cX11_yearsWorth 73 = .ok (.sipush 9999, 3) := by decide +kernel
theorem dX11_yearsWorth_76 : decode cX11_yearsWorth 76 = .ok (.invokestatic 425, 3) := by decide +kernel
theorem dX11_yearsWorth_79 : decode cX11_yearsWorth 79 = .ok (.ireturn, 1) := by decide +kernel
set_option maxRecDepth 20000 in
theorem ggX11_refusalAt_X11_isShelf : GoodIn wsX11_refusalAt wsX11_isShelf := goodIn_r _ [5, 6, 7, 4, 8] rfl (by decide +kernel)
set_option maxRecDepth 20000 in
theorem gX11_refusalAt_X11_isShelf : GoodIn wsX11_refusalAt (va_wsS RX11 104 yX11_isShelf wsX11_isShelf) := goodIn_app (goodIn_r _ [2, 3, 4] rfl (by decide +kernel)) ggX11_refusalAt_X11_isShelf
set_option maxRecDepth 20000 in
theorem ggX11_refusalAt_X7_spans : GoodIn wsX11_refusalAt wsX7_spans := goodIn_r _ [13, 14, 28, 29, 30, 31, 32] rfl (by decide +kernel)
set_option maxRecDepth 20000 in
theorem gX11_refusalAt_X7_spans : GoodIn wsX11_refusalAt (wsV RX11 362 RX7 yX7_spans wsX7_spans) := goodIn_app (goodIn_r _ [9, 10, 11, 12] rfl (by decide +kernel)) ggX11_refusalAt_X7_spans
theorem dX11_refusalAt_0 : decode cX11_refusalAt 0 = .ok (.iload_n 1, 1) := by decide +kernel
theorem dX11_refusalAt_1 : decode cX11_refusalAt 1 = .ok (.invokestatic 104, 3) := by decide +kernel
theorem dX11_refusalAt_4 : decode cX11_refusalAt 4 = .ok (.ifCond .ne 5, 3) := by decide +kernel
theorem dX11_refusalAt_7 : decode cX11_refusalAt 7 = .ok (.iconst (-1), 1) := by decide +kernel
theorem dX11_refusalAt_8 : decode cX11_refusalAt 8 = .ok (.ireturn, 1) := by decide +kernel
theorem dX11_refusalAt_9 : decode cX11_refusalAt 9 = .ok (.aload_n 0, 1) := by decide +kernel
theorem dX11_refusalAt_10 : decode cX11_refusalAt 10 = .ok (.getfield 81, 3) := by decide +kernel
theorem dX11_refusalAt_13 : decode cX11_refusalAt 13 = .ok (.iload_n 1, 1) := by decide +kernel
theorem dX11_refusalAt_14 : decode cX11_refusalAt 14 = .ok (.aaload, 1) := by decide +kernel
theorem dX11_refusalAt_15 : decode cX11_refusalAt 15 = .ok (.astore_n 3, 1) := by decide +kernel
theorem dX11_refusalAt_16 : decode cX11_refusalAt 16 = .ok (.aload_n 3, 1) := by decide +kernel
theorem dX11_refusalAt_17 : decode cX11_refusalAt 17 = .ok (.getfield 112, 3) := by decide +kernel
theorem dX11_refusalAt_20 : decode cX11_refusalAt 20 = .ok (.ifCond .ne 6, 3) := by decide +kernel
theorem dX11_refusalAt_23 : decode cX11_refusalAt 23 = .ok (.bipush (-11), 2) := by decide +kernel
theorem dX11_refusalAt_25 : decode cX11_refusalAt 25 = .ok (.ireturn, 1) := by decide +kernel
theorem dX11_refusalAt_26 : decode cX11_refusalAt 26 = .ok (.aload_n 3, 1) := by decide +kernel
theorem dX11_refusalAt_27 : decode cX11_refusalAt 27 = .ok (.getfield 112, 3) := by decide +kernel
theorem dX11_refusalAt_30 : decode cX11_refusalAt 30 = .ok (.iconst 2, 1) := by decide +kernel
theorem dX11_refusalAt_31 : decode cX11_refusalAt 31 = .ok (.if_icmp .eq 6, 3) := by decide +kernel
theorem dX11_refusalAt_34 : decode cX11_refusalAt 34 = .ok (.bipush (-12), 2) := by decide +kernel
theorem dX11_refusalAt_36 : decode cX11_refusalAt 36 = .ok (.ireturn, 1) := by decide +kernel
theorem dX11_refusalAt_37 : decode cX11_refusalAt 37 = .ok (.aload_n 3, 1) := by decide +kernel
theorem dX11_refusalAt_38 : decode cX11_refusalAt 38 = .ok (.iload_n 2, 1) := by decide +kernel
theorem dX11_refusalAt_39 : decode cX11_refusalAt 39 = .ok (.iconst 1, 1) := by decide +kernel
theorem dX11_refusalAt_40 : decode cX11_refusalAt 40 = .ok (.invokevirtual 362, 3) := by decide +kernel
theorem dX11_refusalAt_43 : decode cX11_refusalAt 43 = .ok (.ifCond .eq 7, 3) := by decide +kernel
theorem dX11_refusalAt_46 : decode cX11_refusalAt 46 = .ok (.iconst 0, 1) := by decide +kernel
theorem dX11_refusalAt_47 : decode cX11_refusalAt 47 = .ok (.goto 5, 3) := by decide +kernel
theorem dX11_refusalAt_50 : decode cX11_refusalAt 50 = .ok (.bipush (-13), 2) := by decide +kernel
theorem dX11_refusalAt_52 : decode cX11_refusalAt 52 = .ok (.ireturn, 1) := by decide +kernel
theorem dJ13_bitCount_95d88_0 : decode cJ13_bitCount_95d88 0 = .ok (.lload_n 0, 1) := by decide +kernel
theorem dJ13_bitCount_95d88_1 : decode cJ13_bitCount_95d88 1 = .ok (.lload_n 0, 1) := by decide +kernel
theorem dJ13_bitCount_95d88_2 : decode cJ13_bitCount_95d88 2 = .ok (.iconst 1, 1) := by decide +kernel
theorem dJ13_bitCount_95d88_3 : decode cJ13_bitCount_95d88 3 = .ok (.lushr, 1) := by decide +kernel
theorem dJ13_bitCount_95d88_4 : decode cJ13_bitCount_95d88 4 = .ok (.ldc2_w 314, 3) := by decide +kernel
theorem dJ13_bitCount_95d88_7 : decode cJ13_bitCount_95d88 7 = .ok (.land, 1) := by decide +kernel
theorem dJ13_bitCount_95d88_8 : decode cJ13_bitCount_95d88 8 = .ok (.lsub, 1) := by decide +kernel
theorem dJ13_bitCount_95d88_9 : decode cJ13_bitCount_95d88 9 = .ok (.lstore_n 0, 1) := by decide +kernel
theorem dJ13_bitCount_95d88_10 : decode cJ13_bitCount_95d88 10 = .ok (.lload_n 0, 1) := by decide +kernel
theorem dJ13_bitCount_95d88_11 : decode cJ13_bitCount_95d88 11 = .ok (.ldc2_w 316, 3) := by decide +kernel
theorem dJ13_bitCount_95d88_14 : decode cJ13_bitCount_95d88 14 = .ok (.land, 1) := by decide +kernel
theorem dJ13_bitCount_95d88_15 : decode cJ13_bitCount_95d88 15 = .ok (.lload_n 0, 1) := by decide +kernel
theorem dJ13_bitCount_95d88_16 : decode cJ13_bitCount_95d88 16 = .ok (.iconst 2, 1) := by decide +kernel
theorem dJ13_bitCount_95d88_17 : decode cJ13_bitCount_95d88 17 = .ok (.lushr, 1) := by decide +kernel
theorem dJ13_bitCount_95d88_18 : decode cJ13_bitCount_95d88 18 = .ok (.ldc2_w 316, 3) := by decide +kernel
theorem dJ13_bitCount_95d88_21 : decode cJ13_bitCount_95d88 21 = .ok (.land, 1) := by decide +kernel
theorem dJ13_bitCount_95d88_22 : decode cJ13_bitCount_95d88 22 = .ok (.ladd, 1) := by decide +kernel
theorem dJ13_bitCount_95d88_23 : decode cJ13_bitCount_95d88 23 = .ok (.lstore_n 0, 1) := by decide +kernel
theorem dJ13_bitCount_95d88_24 : decode cJ13_bitCount_95d88 24 = .ok (.lload_n 0, 1) := by decide +kernel
theorem dJ13_bitCount_95d88_25 : decode cJ13_bitCount_95d88 25 = .ok (.lload_n 0, 1) := by decide +kernel
theorem dJ13_bitCount_95d88_26 : decode cJ13_bitCount_95d88 26 = .ok (.iconst 4, 1) := by decide +kernel
theorem dJ13_bitCount_95d88_27 : decode cJ13_bitCount_95d88 27 = .ok (.lushr, 1) := by decide +kernel
theorem dJ13_bitCount_95d88_28 : decode cJ13_bitCount_95d88 28 = .ok (.ladd, 1) := by decide +kernel
theorem dJ13_bitCount_95d88_29 : decode cJ13_bitCount_95d88 29 = .ok (.ldc2_w 318, 3) := by decide +kernel
theorem dJ13_bitCount_95d88_32 : decode cJ13_bitCount_95d88 32 = .ok (.land, 1) := by decide +kernel
theorem dJ13_bitCount_95d88_33 : decode cJ13_bitCount_95d88 33 = .ok (.lstore_n 0, 1) := by decide +kernel
theorem dJ13_bitCount_95d88_34 : decode cJ13_bitCount_95d88 34 = .ok (.lload_n 0, 1) := by decide +kernel
theorem dJ13_bitCount_95d88_35 : decode cJ13_bitCount_95d88 35 = .ok (.lload_n 0, 1) := by decide +kernel
theorem dJ13_bitCount_95d88_36 : decode cJ13_bitCount_95d88 36 = .ok (.bipush 8, 2) := by decide +kernel
theorem dJ13_bitCount_95d88_38 : decode cJ13_bitCount_95d88 38 = .ok (.lushr, 1) := by decide +kernel
theorem dJ13_bitCount_95d88_39 : decode cJ13_bitCount_95d88 39 = .ok (.ladd, 1) := by decide +kernel
theorem dJ13_bitCount_95d88_40 : decode cJ13_bitCount_95d88 40 = .ok (.lstore_n 0, 1) := by decide +kernel
theorem dJ13_bitCount_95d88_41 : decode cJ13_bitCount_95d88 41 = .ok (.lload_n 0, 1) := by decide +kernel
theorem dJ13_bitCount_95d88_42 : decode cJ13_bitCount_95d88 42 = .ok (.lload_n 0, 1) := by decide +kernel
theorem dJ13_bitCount_95d88_43 : decode cJ13_bitCount_95d88 43 = .ok (.bipush 16, 2) := by decide +kernel
theorem dJ13_bitCount_95d88_45 : decode cJ13_bitCount_95d88 45 = .ok (.lushr, 1) := by decide +kernel
theorem dJ13_bitCount_95d88_46 : decode cJ13_bitCount_95d88 46 = .ok (.ladd, 1) := by decide +kernel
theorem dJ13_bitCount_95d88_47 : decode cJ13_bitCount_95d88 47 = .ok (.lstore_n 0, 1) := by decide +kernel
theorem dJ13_bitCount_95d88_48 : decode cJ13_bitCount_95d88 48 = .ok (.lload_n 0, 1) := by decide +kernel
theorem dJ13_bitCount_95d88_49 : decode cJ13_bitCount_95d88 49 = .ok (.lload_n 0, 1) := by decide +kernel
theorem dJ13_bitCount_95d88_50 : decode cJ13_bitCount_95d88 50 = .ok (.bipush 32, 2) := by decide +kernel
theorem dJ13_bitCount_95d88_52 : decode cJ13_bitCount_95d88 52 = .ok (.lushr, 1) := by decide +kernel
theorem dJ13_bitCount_95d88_53 : decode cJ13_bitCount_95d88 53 = .ok (.ladd, 1) := by decide +kernel
theorem dJ13_bitCount_95d88_54 : decode cJ13_bitCount_95d88 54 = .ok (.lstore_n 0, 1) := by decide +kernel
theorem dJ13_bitCount_95d88_55 : decode cJ13_bitCount_95d88 55 = .ok (.lload_n 0, 1) := by decide +kernel
theorem dJ13_bitCount_95d88_56 : decode cJ13_bitCount_95d88 56 = .ok (.l2i, 1) := by decide +kernel
theorem dJ13_bitCount_95d88_57 : decode cJ13_bitCount_95d88 57 = .ok (.bipush 127, 2) := by decide +kernel
theorem dJ13_bitCount_95d88_59 : decode cJ13_bitCount_95d88 59 = .ok (.iand, 1) := by decide +kernel
theorem dJ13_bitCount_95d88_60 : decode cJ13_bitCount_95d88 60 = .ok (.ireturn, 1) := by decide +kernel
theorem dJ9_abs_0f7a4_0 : decode cJ9_abs_0f7a4 0 = .ok (.iload_n 0, 1) := by decide +kernel
theorem dJ9_abs_0f7a4_1 : decode cJ9_abs_0f7a4 1 = .ok (.ifCond .ge 8, 3) := by decide +kernel
theorem dJ9_abs_0f7a4_4 : decode cJ9_abs_0f7a4 4 = .ok (.iload_n 0, 1) := by decide +kernel
theorem dJ9_abs_0f7a4_5 : decode cJ9_abs_0f7a4 5 = .ok (.ineg, 1) := by decide +kernel
theorem dJ9_abs_0f7a4_6 : decode cJ9_abs_0f7a4 6 = .ok (.goto 4, 3) := by decide +kernel
theorem dJ9_abs_0f7a4_9 : decode cJ9_abs_0f7a4 9 = .ok (.iload_n 0, 1) := by decide +kernel
theorem dJ9_abs_0f7a4_10 : decode cJ9_abs_0f7a4 10 = .ok (.ireturn, 1) := by decide +kernel
theorem dJ9_max_7cf53_0 : decode cJ9_max_7cf53 0 = .ok (.iload_n 0, 1) := by decide +kernel
theorem dJ9_max_7cf53_1 : decode cJ9_max_7cf53 1 = .ok (.iload_n 1, 1) := by decide +kernel
theorem dJ9_max_7cf53_2 : decode cJ9_max_7cf53 2 = .ok (.if_icmp .lt 7, 3) := by decide +kernel
theorem dJ9_max_7cf53_5 : decode cJ9_max_7cf53 5 = .ok (.iload_n 0, 1) := by decide +kernel
theorem dJ9_max_7cf53_6 : decode cJ9_max_7cf53 6 = .ok (.goto 4, 3) := by decide +kernel
theorem dJ9_max_7cf53_9 : decode cJ9_max_7cf53 9 = .ok (.iload_n 1, 1) := by decide +kernel
theorem dJ9_max_7cf53_10 : decode cJ9_max_7cf53 10 = .ok (.ireturn, 1) := by decide +kernel
theorem dJ9_max_f86c9_0 : decode cJ9_max_f86c9 0 = .ok (.lload_n 0, 1) := by decide +kernel
theorem dJ9_max_f86c9_1 : decode cJ9_max_f86c9 1 = .ok (.lload_n 2, 1) := by decide +kernel
theorem dJ9_max_f86c9_2 : decode cJ9_max_f86c9 2 = .ok (.lcmp, 1) := by decide +kernel
theorem dJ9_max_f86c9_3 : decode cJ9_max_f86c9 3 = .ok (.ifCond .lt 7, 3) := by decide +kernel
theorem dJ9_max_f86c9_6 : decode cJ9_max_f86c9 6 = .ok (.lload_n 0, 1) := by decide +kernel
theorem dJ9_max_f86c9_7 : decode cJ9_max_f86c9 7 = .ok (.goto 4, 3) := by decide +kernel
theorem dJ9_max_f86c9_10 : decode cJ9_max_f86c9 10 = .ok (.lload_n 2, 1) := by decide +kernel
theorem dJ9_max_f86c9_11 : decode cJ9_max_f86c9 11 = .ok (.lreturn, 1) := by decide +kernel
theorem dJ9_min_7cf53_0 : decode cJ9_min_7cf53 0 = .ok (.iload_n 0, 1) := by decide +kernel
theorem dJ9_min_7cf53_1 : decode cJ9_min_7cf53 1 = .ok (.iload_n 1, 1) := by decide +kernel
theorem dJ9_min_7cf53_2 : decode cJ9_min_7cf53 2 = .ok (.if_icmp .gt 7, 3) := by decide +kernel
theorem dJ9_min_7cf53_5 : decode cJ9_min_7cf53 5 = .ok (.iload_n 0, 1) := by decide +kernel
theorem dJ9_min_7cf53_6 : decode cJ9_min_7cf53 6 = .ok (.goto 4, 3) := by decide +kernel
theorem dJ9_min_7cf53_9 : decode cJ9_min_7cf53 9 = .ok (.iload_n 1, 1) := by decide +kernel
theorem dJ9_min_7cf53_10 : decode cJ9_min_7cf53 10 = .ok (.ireturn, 1) := by decide +kernel
theorem dJ7_rangeCheck_23922_0 : decode cJ7_rangeCheck_23922 0 = .ok (.iload_n 1, 1) := by decide +kernel
theorem dJ7_rangeCheck_23922_1 : decode cJ7_rangeCheck_23922 1 = .ok (.iload_n 2, 1) := by decide +kernel
theorem dJ7_rangeCheck_23922_2 : decode cJ7_rangeCheck_23922 2 = .ok (.if_icmp .le 44, 3) := by decide +kernel
theorem dJ7_rangeCheck_23922_5 : decode cJ7_rangeCheck_23922 5 = .ok (.new 43, 3) := by decide +kernel
theorem dJ7_rangeCheck_23922_8 : decode cJ7_rangeCheck_23922 8 = .ok (.dup, 1) := by decide +kernel
theorem dJ7_rangeCheck_23922_9 : decode cJ7_rangeCheck_23922 9 = .ok (.new 45, 3) := by decide +kernel
theorem dJ7_rangeCheck_23922_12 : decode cJ7_rangeCheck_23922 12 = .ok (.dup, 1) := by decide +kernel
theorem dJ7_rangeCheck_23922_13 : decode cJ7_rangeCheck_23922 13 = .ok (.invokespecial 47, 3) := by decide +kernel
theorem dJ7_rangeCheck_23922_16 : decode cJ7_rangeCheck_23922 16 = .ok (.ldc 48, 2) := by decide +kernel
theorem dJ7_rangeCheck_23922_18 : decode cJ7_rangeCheck_23922 18 = .ok (.invokevirtual 50, 3) := by decide +kernel
theorem dJ7_rangeCheck_23922_21 : decode cJ7_rangeCheck_23922 21 = .ok (.iload_n 1, 1) := by decide +kernel
theorem dJ7_rangeCheck_23922_22 : decode cJ7_rangeCheck_23922 22 = .ok (.invokevirtual 54, 3) := by decide +kernel
theorem dJ7_rangeCheck_23922_25 : decode cJ7_rangeCheck_23922 25 = .ok (.ldc 57, 2) := by decide +kernel
theorem dJ7_rangeCheck_23922_27 : decode cJ7_rangeCheck_23922 27 = .ok (.invokevirtual 50, 3) := by decide +kernel
theorem dJ7_rangeCheck_23922_30 : decode cJ7_rangeCheck_23922 30 = .ok (.iload_n 2, 1) := by decide +kernel
theorem dJ7_rangeCheck_23922_31 : decode cJ7_rangeCheck_23922 31 = .ok (.invokevirtual 54, 3) := by decide +kernel
theorem dJ7_rangeCheck_23922_34 : decode cJ7_rangeCheck_23922 34 = .ok (.ldc 59, 2) := by decide +kernel
theorem dJ7_rangeCheck_23922_36 : decode cJ7_rangeCheck_23922 36 = .ok (.invokevirtual 50, 3) := by decide +kernel
theorem dJ7_rangeCheck_23922_39 : decode cJ7_rangeCheck_23922 39 = .ok (.invokevirtual 61, 3) := by decide +kernel
theorem dJ7_rangeCheck_23922_42 : decode cJ7_rangeCheck_23922 42 = .ok (.invokespecial 65, 3) := by decide +kernel
theorem dJ7_rangeCheck_23922_45 : decode cJ7_rangeCheck_23922 45 = .ok (.athrow, 1) := by decide +kernel
theorem dJ7_rangeCheck_23922_46 : decode cJ7_rangeCheck_23922 46 = .ok (.iload_n 1, 1) := by decide +kernel
theorem dJ7_rangeCheck_23922_47 : decode cJ7_rangeCheck_23922 47 = .ok (.ifCond .ge 12, 3) := by decide +kernel
theorem dJ7_rangeCheck_23922_50 : decode cJ7_rangeCheck_23922 50 = .ok (.new 68, 3) := by decide +kernel
theorem dJ7_rangeCheck_23922_53 : decode cJ7_rangeCheck_23922 53 = .ok (.dup, 1) := by decide +kernel
theorem dJ7_rangeCheck_23922_54 : decode cJ7_rangeCheck_23922 54 = .ok (.iload_n 1, 1) := by decide +kernel
theorem dJ7_rangeCheck_23922_55 : decode cJ7_rangeCheck_23922 55 = .ok (.invokespecial 70, 3) := by decide +kernel
theorem dJ7_rangeCheck_23922_58 : decode cJ7_rangeCheck_23922 58 = .ok (.athrow, 1) := by decide +kernel
theorem dJ7_rangeCheck_23922_59 : decode cJ7_rangeCheck_23922 59 = .ok (.iload_n 2, 1) := by decide +kernel
theorem dJ7_rangeCheck_23922_60 : decode cJ7_rangeCheck_23922 60 = .ok (.iload_n 0, 1) := by decide +kernel
theorem dJ7_rangeCheck_23922_61 : decode cJ7_rangeCheck_23922 61 = .ok (.if_icmp .le 12, 3) := by decide +kernel
theorem dJ7_rangeCheck_23922_64 : decode cJ7_rangeCheck_23922 64 = .ok (.new 68, 3) := by decide +kernel
theorem dJ7_rangeCheck_23922_67 : decode cJ7_rangeCheck_23922 67 = .ok (.dup, 1) := by decide +kernel
theorem dJ7_rangeCheck_23922_68 : decode cJ7_rangeCheck_23922 68 = .ok (.iload_n 2, 1) := by decide +kernel
theorem dJ7_rangeCheck_23922_69 : decode cJ7_rangeCheck_23922 69 = .ok (.invokespecial 70, 3) := by decide +kernel
theorem dJ7_rangeCheck_23922_72 : decode cJ7_rangeCheck_23922 72 = .ok (.athrow, 1) := by decide +kernel
theorem dJ7_rangeCheck_23922_73 : decode cJ7_rangeCheck_23922 73 = .ok (.return_, 1) := by decide +kernel
theorem dJ7_fill_d0a16_0 : decode cJ7_fill_d0a16 0 = .ok (.iconst 0, 1) := by decide +kernel
theorem dJ7_fill_d0a16_1 : decode cJ7_fill_d0a16 1 = .ok (.istore_n 3, 1) := by decide +kernel
theorem dJ7_fill_d0a16_2 : decode cJ7_fill_d0a16 2 = .ok (.aload_n 0, 1) := by decide +kernel
theorem dJ7_fill_d0a16_3 : decode cJ7_fill_d0a16 3 = .ok (.arraylength, 1) := by decide +kernel
theorem dJ7_fill_d0a16_4 : decode cJ7_fill_d0a16 4 = .ok (.istore 4, 2) := by decide +kernel
theorem dJ7_fill_d0a16_6 : decode cJ7_fill_d0a16 6 = .ok (.iload_n 3, 1) := by decide +kernel
theorem dJ7_fill_d0a16_7 : decode cJ7_fill_d0a16 7 = .ok (.iload 4, 2) := by decide +kernel
theorem dJ7_fill_d0a16_9 : decode cJ7_fill_d0a16 9 = .ok (.if_icmp .ge 13, 3) := by decide +kernel
theorem dJ7_fill_d0a16_12 : decode cJ7_fill_d0a16 12 = .ok (.aload_n 0, 1) := by decide +kernel
theorem dJ7_fill_d0a16_13 : decode cJ7_fill_d0a16 13 = .ok (.iload_n 3, 1) := by decide +kernel
theorem dJ7_fill_d0a16_14 : decode cJ7_fill_d0a16 14 = .ok (.lload_n 1, 1) := by decide +kernel
theorem dJ7_fill_d0a16_15 : decode cJ7_fill_d0a16 15 = .ok (.lastore, 1) := by decide +kernel
theorem dJ7_fill_d0a16_16 : decode cJ7_fill_d0a16 16 = .ok (.iinc 3 1, 3) := by decide +kernel
theorem dJ7_fill_d0a16_19 : decode cJ7_fill_d0a16 19 = .ok (.goto (-13), 3) := by decide +kernel
theorem dJ7_fill_d0a16_22 : decode cJ7_fill_d0a16 22 = .ok (.return_, 1) := by decide +kernel
theorem dJ7_fill_53178_0 : decode cJ7_fill_53178 0 = .ok (.iconst 0, 1) := by decide +kernel
theorem dJ7_fill_53178_1 : decode cJ7_fill_53178 1 = .ok (.istore_n 2, 1) := by decide +kernel
theorem dJ7_fill_53178_2 : decode cJ7_fill_53178 2 = .ok (.aload_n 0, 1) := by decide +kernel
theorem dJ7_fill_53178_3 : decode cJ7_fill_53178 3 = .ok (.arraylength, 1) := by decide +kernel
theorem dJ7_fill_53178_4 : decode cJ7_fill_53178 4 = .ok (.istore_n 3, 1) := by decide +kernel
theorem dJ7_fill_53178_5 : decode cJ7_fill_53178 5 = .ok (.iload_n 2, 1) := by decide +kernel
theorem dJ7_fill_53178_6 : decode cJ7_fill_53178 6 = .ok (.iload_n 3, 1) := by decide +kernel
theorem dJ7_fill_53178_7 : decode cJ7_fill_53178 7 = .ok (.if_icmp .ge 13, 3) := by decide +kernel
theorem dJ7_fill_53178_10 : decode cJ7_fill_53178 10 = .ok (.aload_n 0, 1) := by decide +kernel
theorem dJ7_fill_53178_11 : decode cJ7_fill_53178 11 = .ok (.iload_n 2, 1) := by decide +kernel
theorem dJ7_fill_53178_12 : decode cJ7_fill_53178 12 = .ok (.iload_n 1, 1) := by decide +kernel
theorem dJ7_fill_53178_13 : decode cJ7_fill_53178 13 = .ok (.iastore, 1) := by decide +kernel
theorem dJ7_fill_53178_14 : decode cJ7_fill_53178 14 = .ok (.iinc 2 1, 3) := by decide +kernel
theorem dJ7_fill_53178_17 : decode cJ7_fill_53178 17 = .ok (.goto (-12), 3) := by decide +kernel
theorem dJ7_fill_53178_20 : decode cJ7_fill_53178 20 = .ok (.return_, 1) := by decide +kernel
set_option maxRecDepth 20000 in
theorem ggJ7_fill_fda19_J7_rangeCheck_23922 : GoodIn wsJ7_fill_fda19 wsJ7_rangeCheck_23922 := goodIn_r _ [4] rfl (by decide +kernel)
set_option maxRecDepth 20000 in
theorem gJ7_fill_fda19_J7_rangeCheck_23922 : GoodIn wsJ7_fill_fda19 (va_wsS RJ7 13 yJ7_rangeCheck_23922 wsJ7_rangeCheck_23922) := goodIn_app (goodIn_r _ [1, 2, 3] rfl (by decide +kernel)) ggJ7_fill_fda19_J7_rangeCheck_23922
theorem dJ7_fill_fda19_0 : decode cJ7_fill_fda19 0 = .ok (.aload_n 0, 1) := by decide +kernel
theorem dJ7_fill_fda19_1 : decode cJ7_fill_fda19 1 = .ok (.arraylength, 1) := by decide +kernel
theorem dJ7_fill_fda19_2 : decode cJ7_fill_fda19 2 = .ok (.iload_n 1, 1) := by decide +kernel
theorem dJ7_fill_fda19_3 : decode cJ7_fill_fda19 3 = .ok (.iload_n 2, 1) := by decide +kernel
theorem dJ7_fill_fda19_4 : decode cJ7_fill_fda19 4 = .ok (.invokestatic 13, 3) := by decide +kernel
theorem dJ7_fill_fda19_7 : decode cJ7_fill_fda19 7 = .ok (.iload_n 1, 1) := by decide +kernel
theorem dJ7_fill_fda19_8 : decode cJ7_fill_fda19 8 = .ok (.istore 4, 2) := by decide +kernel
theorem dJ7_fill_fda19_10 : decode cJ7_fill_fda19 10 = .ok (.iload 4, 2) := by decide +kernel
theorem dJ7_fill_fda19_12 : decode cJ7_fill_fda19 12 = .ok (.iload_n 2, 1) := by decide +kernel
theorem dJ7_fill_fda19_13 : decode cJ7_fill_fda19 13 = .ok (.if_icmp .ge 14, 3) := by decide +kernel
theorem dJ7_fill_fda19_16 : decode cJ7_fill_fda19 16 = .ok (.aload_n 0, 1) := by decide +kernel
theorem dJ7_fill_fda19_17 : decode cJ7_fill_fda19 17 = .ok (.iload 4, 2) := by decide +kernel
theorem dJ7_fill_fda19_19 : decode cJ7_fill_fda19 19 = .ok (.iload_n 3, 1) := by decide +kernel
theorem dJ7_fill_fda19_20 : decode cJ7_fill_fda19 20 = .ok (.iastore, 1) := by decide +kernel
theorem dJ7_fill_fda19_21 : decode cJ7_fill_fda19 21 = .ok (.iinc 4 1, 3) := by decide +kernel
theorem dJ7_fill_fda19_24 : decode cJ7_fill_fda19 24 = .ok (.goto (-14), 3) := by decide +kernel
theorem dJ7_fill_fda19_27 : decode cJ7_fill_fda19 27 = .ok (.return_, 1) := by decide +kernel
