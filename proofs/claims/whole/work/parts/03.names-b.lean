theorem dX1_init_0 : decode cX1_init 0 = .ok (.aload_n 0, 1) := by decide +kernel
theorem dX1_init_1 : decode cX1_init 1 = .ok (.invokespecial 3, 3) := by decide +kernel
theorem dX1_init_4 : decode cX1_init 4 = .ok (.aload_n 0, 1) := by decide +kernel
theorem dX1_init_5 : decode cX1_init 5 = .ok (.sipush 4096, 3) := by decide +kernel
theorem dX1_init_8 : decode cX1_init 8 = .ok (.newarray .int, 2) := by decide +kernel
theorem dX1_init_10 : decode cX1_init 10 = .ok (.putfield 9, 3) := by decide +kernel
theorem dX1_init_13 : decode cX1_init 13 = .ok (.aload_n 0, 1) := by decide +kernel
theorem dX1_init_14 : decode cX1_init 14 = .ok (.sipush 4096, 3) := by decide +kernel
theorem dX1_init_17 : decode cX1_init 17 = .ok (.newarray .int, 2) := by decide +kernel
theorem dX1_init_19 : decode cX1_init 19 = .ok (.putfield 15, 3) := by decide +kernel
theorem dX1_init_22 : decode cX1_init 22 = .ok (.aload_n 0, 1) := by decide +kernel
theorem dX1_init_23 : decode cX1_init 23 = .ok (.sipush 512, 3) := by decide +kernel
theorem dX1_init_26 : decode cX1_init 26 = .ok (.newarray .int, 2) := by decide +kernel
theorem dX1_init_28 : decode cX1_init 28 = .ok (.putfield 18, 3) := by decide +kernel
theorem dX1_init_31 : decode cX1_init 31 = .ok (.aload_n 0, 1) := by decide +kernel
theorem dX1_init_32 : decode cX1_init 32 = .ok (.sipush 512, 3) := by decide +kernel
theorem dX1_init_35 : decode cX1_init 35 = .ok (.newarray .boolean, 2) := by decide +kernel
theorem dX1_init_37 : decode cX1_init 37 = .ok (.putfield 21, 3) := by decide +kernel
theorem dX1_init_40 : decode cX1_init 40 = .ok (.aload_n 0, 1) := by decide +kernel
theorem dX1_init_41 : decode cX1_init 41 = .ok (.iconst 0, 1) := by decide +kernel
theorem dX1_init_42 : decode cX1_init 42 = .ok (.putfield 25, 3) := by decide +kernel
theorem dX1_init_45 : decode cX1_init 45 = .ok (.return_, 1) := by decide +kernel
set_option maxRecDepth 20000 in
theorem ggX1_at_X2_isWord : GoodIn wsX1_at wsX2_isWord := goodIn_r _ [4] (by decide +kernel) (by decide +kernel)
set_option maxRecDepth 20000 in
theorem gX1_at_X2_isWord_n29 : GoodIn wsX1_at (wsX2_isWord) := ggX1_at_X2_isWord
theorem dX1_at_0 : decode cX1_at 0 = .ok (.iload_n 1, 1) := by decide +kernel
theorem dX1_at_1 : decode cX1_at 1 = .ok (.invokestatic 29, 3) := by decide +kernel
theorem dX1_at_4 : decode cX1_at 4 = .ok (.ifCond .eq 12, 3) := by decide +kernel
theorem dX1_at_7 : decode cX1_at 7 = .ok (.aload_n 0, 1) := by decide +kernel
theorem dX1_at_8 : decode cX1_at 8 = .ok (.getfield 9, 3) := by decide +kernel
theorem dX1_at_11 : decode cX1_at 11 = .ok (.iload_n 1, 1) := by decide +kernel
theorem dX1_at_12 : decode cX1_at 12 = .ok (.iaload, 1) := by decide +kernel
theorem dX1_at_13 : decode cX1_at 13 = .ok (.goto 4, 3) := by decide +kernel
theorem dX1_at_16 : decode cX1_at 16 = .ok (.iconst 0, 1) := by decide +kernel
theorem dX1_at_17 : decode cX1_at 17 = .ok (.ireturn, 1) := by decide +kernel
set_option maxRecDepth 20000 in
theorem ggX1_keptAt_X2_isWord : GoodIn wsX1_keptAt wsX2_isWord := goodIn_r _ [4] (by decide +kernel) (by decide +kernel)
set_option maxRecDepth 20000 in
theorem gX1_keptAt_X2_isWord_n29 : GoodIn wsX1_keptAt (wsX2_isWord) := ggX1_keptAt_X2_isWord
theorem dX1_keptAt_0 : decode cX1_keptAt 0 = .ok (.iload_n 1, 1) := by decide +kernel
theorem dX1_keptAt_1 : decode cX1_keptAt 1 = .ok (.invokestatic 29, 3) := by decide +kernel
theorem dX1_keptAt_4 : decode cX1_keptAt 4 = .ok (.ifCond .eq 12, 3) := by decide +kernel
theorem dX1_keptAt_7 : decode cX1_keptAt 7 = .ok (.aload_n 0, 1) := by decide +kernel
theorem dX1_keptAt_8 : decode cX1_keptAt 8 = .ok (.getfield 15, 3) := by decide +kernel
theorem dX1_keptAt_11 : decode cX1_keptAt 11 = .ok (.iload_n 1, 1) := by decide +kernel
theorem dX1_keptAt_12 : decode cX1_keptAt 12 = .ok (.iaload, 1) := by decide +kernel
theorem dX1_keptAt_13 : decode cX1_keptAt 13 = .ok (.goto 4, 3) := by decide +kernel
theorem dX1_keptAt_16 : decode cX1_keptAt 16 = .ok (.iconst 0, 1) := by decide +kernel
theorem dX1_keptAt_17 : decode cX1_keptAt 17 = .ok (.ireturn, 1) := by decide +kernel
theorem dX1_waiting_0 : decode cX1_waiting 0 = .ok (.aload_n 0, 1) := by decide +kernel
theorem dX1_waiting_1 : decode cX1_waiting 1 = .ok (.getfield 25, 3) := by decide +kernel
theorem dX1_waiting_4 : decode cX1_waiting 4 = .ok (.ireturn, 1) := by decide +kernel
theorem dX1_lineAt_0 : decode cX1_lineAt 0 = .ok (.iload_n 1, 1) := by decide +kernel
theorem dX1_lineAt_1 : decode cX1_lineAt 1 = .ok (.ifCond .lt 29, 3) := by decide +kernel
theorem dX1_lineAt_4 : decode cX1_lineAt 4 = .ok (.iload_n 1, 1) := by decide +kernel
theorem dX1_lineAt_5 : decode cX1_lineAt 5 = .ok (.aload_n 0, 1) := by decide +kernel
theorem dX1_lineAt_6 : decode cX1_lineAt 6 = .ok (.getfield 25, 3) := by decide +kernel
theorem dX1_lineAt_9 : decode cX1_lineAt 9 = .ok (.if_icmp .ge 21, 3) := by decide +kernel
theorem dX1_lineAt_12 : decode cX1_lineAt 12 = .ok (.iload_n 1, 1) := by decide +kernel
theorem dX1_lineAt_13 : decode cX1_lineAt 13 = .ok (.aload_n 0, 1) := by decide +kernel
theorem dX1_lineAt_14 : decode cX1_lineAt 14 = .ok (.getfield 18, 3) := by decide +kernel
theorem dX1_lineAt_17 : decode cX1_lineAt 17 = .ok (.arraylength, 1) := by decide +kernel
theorem dX1_lineAt_18 : decode cX1_lineAt 18 = .ok (.if_icmp .ge 12, 3) := by decide +kernel
theorem dX1_lineAt_21 : decode cX1_lineAt 21 = .ok (.aload_n 0, 1) := by decide +kernel
theorem dX1_lineAt_22 : decode cX1_lineAt 22 = .ok (.getfield 18, 3) := by decide +kernel
theorem dX1_lineAt_25 : decode cX1_lineAt 25 = .ok (.iload_n 1, 1) := by decide +kernel
theorem dX1_lineAt_26 : decode cX1_lineAt 26 = .ok (.iaload, 1) := by decide +kernel
theorem dX1_lineAt_27 : decode cX1_lineAt 27 = .ok (.goto 4, 3) := by decide +kernel
theorem dX1_lineAt_30 : decode cX1_lineAt 30 = .ok (.iconst (-1), 1) := by decide +kernel
theorem dX1_lineAt_31 : decode cX1_lineAt 31 = .ok (.ireturn, 1) := by decide +kernel
set_option maxRecDepth 20000 in
theorem ggX1_write_X2_isWord : GoodIn wsX1_write wsX2_isWord := goodIn_r _ [7] (by decide +kernel) (by decide +kernel)
set_option maxRecDepth 20000 in
theorem gX1_write_X2_isWord_n29 : GoodIn wsX1_write (wsX2_isWord) := ggX1_write_X2_isWord
theorem dX1_write_0 : decode cX1_write 0 = .ok (.iload_n 1, 1) := by decide +kernel
theorem dX1_write_1 : decode cX1_write 1 = .ok (.invokestatic 29, 3) := by decide +kernel
theorem dX1_write_4 : decode cX1_write 4 = .ok (.ifCond .ne 4, 3) := by decide +kernel
theorem dX1_write_7 : decode cX1_write 7 = .ok (.return_, 1) := by decide +kernel
theorem dX1_write_8 : decode cX1_write 8 = .ok (.aload_n 0, 1) := by decide +kernel
theorem dX1_write_9 : decode cX1_write 9 = .ok (.getfield 9, 3) := by decide +kernel
theorem dX1_write_12 : decode cX1_write 12 = .ok (.iload_n 1, 1) := by decide +kernel
theorem dX1_write_13 : decode cX1_write 13 = .ok (.iload_n 2, 1) := by decide +kernel
theorem dX1_write_14 : decode cX1_write 14 = .ok (.iastore, 1) := by decide +kernel
theorem dX1_write_15 : decode cX1_write 15 = .ok (.iload_n 1, 1) := by decide +kernel
theorem dX1_write_16 : decode cX1_write 16 = .ok (.bipush 8, 2) := by decide +kernel
theorem dX1_write_18 : decode cX1_write 18 = .ok (.idiv, 1) := by decide +kernel
theorem dX1_write_19 : decode cX1_write 19 = .ok (.istore_n 3, 1) := by decide +kernel
theorem dX1_write_20 : decode cX1_write 20 = .ok (.aload_n 0, 1) := by decide +kernel
theorem dX1_write_21 : decode cX1_write 21 = .ok (.getfield 21, 3) := by decide +kernel
theorem dX1_write_24 : decode cX1_write 24 = .ok (.iload_n 3, 1) := by decide +kernel
theorem dX1_write_25 : decode cX1_write 25 = .ok (.baload, 1) := by decide +kernel
theorem dX1_write_26 : decode cX1_write 26 = .ok (.ifCond .ne 42, 3) := by decide +kernel
theorem dX1_write_29 : decode cX1_write 29 = .ok (.aload_n 0, 1) := by decide +kernel
theorem dX1_write_30 : decode cX1_write 30 = .ok (.getfield 25, 3) := by decide +kernel
theorem dX1_write_33 : decode cX1_write 33 = .ok (.aload_n 0, 1) := by decide +kernel
theorem dX1_write_34 : decode cX1_write 34 = .ok (.getfield 18, 3) := by decide +kernel
theorem dX1_write_37 : decode cX1_write 37 = .ok (.arraylength, 1) := by decide +kernel
theorem dX1_write_38 : decode cX1_write 38 = .ok (.if_icmp .ge 30, 3) := by decide +kernel
theorem dX1_write_41 : decode cX1_write 41 = .ok (.aload_n 0, 1) := by decide +kernel
theorem dX1_write_42 : decode cX1_write 42 = .ok (.getfield 21, 3) := by decide +kernel
theorem dX1_write_45 : decode cX1_write 45 = .ok (.iload_n 3, 1) := by decide +kernel
theorem dX1_write_46 : decode cX1_write 46 = .ok (.iconst 1, 1) := by decide +kernel
theorem dX1_write_47 : decode cX1_write 47 = .ok (.bastore, 1) := by decide +kernel
theorem dX1_write_48 : decode cX1_write 48 = .ok (.aload_n 0, 1) := by decide +kernel
theorem dX1_write_49 : decode cX1_write 49 = .ok (.getfield 18, 3) := by decide +kernel
theorem dX1_write_52 : decode cX1_write 52 = .ok (.aload_n 0, 1) := by decide +kernel
theorem dX1_write_53 : decode cX1_write 53 = .ok (.getfield 25, 3) := by decide +kernel
theorem dX1_write_56 : decode cX1_write 56 = .ok (.iload_n 3, 1) := by decide +kernel
theorem dX1_write_57 : decode cX1_write 57 = .ok (.iastore, 1) := by decide +kernel
theorem dX1_write_58 : decode cX1_write 58 = .ok (.aload_n 0, 1) := by decide +kernel
theorem dX1_write_59 : decode cX1_write 59 = .ok (.dup, 1) := by decide +kernel
theorem dX1_write_60 : decode cX1_write 60 = .ok (.getfield 25, 3) := by decide +kernel
theorem dX1_write_63 : decode cX1_write 63 = .ok (.iconst 1, 1) := by decide +kernel
theorem dX1_write_64 : decode cX1_write 64 = .ok (.iadd, 1) := by decide +kernel
theorem dX1_write_65 : decode cX1_write 65 = .ok (.putfield 25, 3) := by decide +kernel
theorem dX1_write_68 : decode cX1_write 68 = .ok (.return_, 1) := by decide +kernel
set_option maxRecDepth 20000 in
theorem ggX1_keepAll_X1_keepSome : GoodIn wsX1_keepAll wsX1_keepSome := goodIn_r _ [6, 1, 7, 8, 9, 10, 11, 5, 12, 13, 14, 15, 16, 17, 18, 19, 20, 21, 22, 23] (by decide +kernel) (by decide +kernel)
set_option maxRecDepth 20000 in
theorem gX1_keepAll_X1_keepSome : GoodIn wsX1_keepAll (wsV RX1 33 RX1 yX1_keepSome wsX1_keepSome) := goodIn_app (goodIn_of _ (by decide +kernel)) ggX1_keepAll_X1_keepSome
theorem dX1_keepAll_0 : decode cX1_keepAll 0 = .ok (.aload_n 0, 1) := by decide +kernel
theorem dX1_keepAll_1 : decode cX1_keepAll 1 = .ok (.getfield 25, 3) := by decide +kernel
theorem dX1_keepAll_4 : decode cX1_keepAll 4 = .ok (.istore_n 1, 1) := by decide +kernel
theorem dX1_keepAll_5 : decode cX1_keepAll 5 = .ok (.aload_n 0, 1) := by decide +kernel
theorem dX1_keepAll_6 : decode cX1_keepAll 6 = .ok (.iconst (-1), 1) := by decide +kernel
theorem dX1_keepAll_7 : decode cX1_keepAll 7 = .ok (.invokevirtual 33, 3) := by decide +kernel
theorem dX1_keepAll_10 : decode cX1_keepAll 10 = .ok (.iload_n 1, 1) := by decide +kernel
theorem dX1_keepAll_11 : decode cX1_keepAll 11 = .ok (.ireturn, 1) := by decide +kernel
set_option maxRecDepth 20000 in
theorem ggX1_keepSome_X1_lineAt : GoodIn wsX1_keepSome wsX1_lineAt := goodIn_r _ [8, 1, 9, 15, 16, 17, 18, 19] (by decide +kernel) (by decide +kernel)
set_option maxRecDepth 20000 in
theorem gX1_keepSome_X1_lineAt : GoodIn wsX1_keepSome (wsV RX1 37 RX1 yX1_lineAt wsX1_lineAt) := goodIn_app (goodIn_of _ (by decide +kernel)) ggX1_keepSome_X1_lineAt
set_option maxRecDepth 20000 in
theorem ggX1_keepSome_X1_settleLine : GoodIn wsX1_keepSome wsX1_settleLine := goodIn_r _ [13, 14, 15, 16, 17, 18, 19] (by decide +kernel) (by decide +kernel)
set_option maxRecDepth 20000 in
theorem gX1_keepSome_X1_settleLine : GoodIn wsX1_keepSome (wsV RX1 41 RX1 yX1_settleLine wsX1_settleLine) := goodIn_app (goodIn_of _ (by decide +kernel)) ggX1_keepSome_X1_settleLine
theorem dX1_keepSome_0 : decode cX1_keepSome 0 = .ok (.iconst 0, 1) := by decide +kernel
theorem dX1_keepSome_1 : decode cX1_keepSome 1 = .ok (.istore_n 2, 1) := by decide +kernel
theorem dX1_keepSome_2 : decode cX1_keepSome 2 = .ok (.iload_n 2, 1) := by decide +kernel
theorem dX1_keepSome_3 : decode cX1_keepSome 3 = .ok (.aload_n 0, 1) := by decide +kernel
theorem dX1_keepSome_4 : decode cX1_keepSome 4 = .ok (.getfield 25, 3) := by decide +kernel
theorem dX1_keepSome_7 : decode cX1_keepSome 7 = .ok (.if_icmp .ge 66, 3) := by decide +kernel
theorem dX1_keepSome_10 : decode cX1_keepSome 10 = .ok (.iload_n 1, 1) := by decide +kernel
theorem dX1_keepSome_11 : decode cX1_keepSome 11 = .ok (.iload_n 2, 1) := by decide +kernel
theorem dX1_keepSome_12 : decode cX1_keepSome 12 = .ok (.bipush 32, 2) := by decide +kernel
theorem dX1_keepSome_14 : decode cX1_keepSome 14 = .ok (.irem, 1) := by decide +kernel
theorem dX1_keepSome_15 : decode cX1_keepSome 15 = .ok (.iushr, 1) := by decide +kernel
theorem dX1_keepSome_16 : decode cX1_keepSome 16 = .ok (.iconst 1, 1) := by decide +kernel
theorem dX1_keepSome_17 : decode cX1_keepSome 17 = .ok (.iand, 1) := by decide +kernel
theorem dX1_keepSome_18 : decode cX1_keepSome 18 = .ok (.iconst 1, 1) := by decide +kernel
theorem dX1_keepSome_19 : decode cX1_keepSome 19 = .ok (.if_icmp .ne 7, 3) := by decide +kernel
theorem dX1_keepSome_22 : decode cX1_keepSome 22 = .ok (.iconst 1, 1) := by decide +kernel
theorem dX1_keepSome_23 : decode cX1_keepSome 23 = .ok (.goto 4, 3) := by decide +kernel
theorem dX1_keepSome_26 : decode cX1_keepSome 26 = .ok (.iconst 0, 1) := by decide +kernel
theorem dX1_keepSome_27 : decode cX1_keepSome 27 = .ok (.istore_n 3, 1) := by decide +kernel
theorem dX1_keepSome_28 : decode cX1_keepSome 28 = .ok (.aload_n 0, 1) := by decide +kernel
theorem dX1_keepSome_29 : decode cX1_keepSome 29 = .ok (.aload_n 0, 1) := by decide +kernel
theorem dX1_keepSome_30 : decode cX1_keepSome 30 = .ok (.iload_n 2, 1) := by decide +kernel
theorem dX1_keepSome_31 : decode cX1_keepSome 31 = .ok (.invokevirtual 37, 3) := by decide +kernel
theorem dX1_keepSome_34 : decode cX1_keepSome 34 = .ok (.iload_n 3, 1) := by decide +kernel
theorem dX1_keepSome_35 : decode cX1_keepSome 35 = .ok (.ifCond .eq 10, 3) := by decide +kernel
theorem dX1_keepSome_38 : decode cX1_keepSome 38 = .ok (.aload_n 0, 1) := by decide +kernel
theorem dX1_keepSome_39 : decode cX1_keepSome 39 = .ok (.getfield 9, 3) := by decide +kernel
theorem dX1_keepSome_42 : decode cX1_keepSome 42 = .ok (.goto 7, 3) := by decide +kernel
theorem dX1_keepSome_45 : decode cX1_keepSome 45 = .ok (.aload_n 0, 1) := by decide +kernel
theorem dX1_keepSome_46 : decode cX1_keepSome 46 = .ok (.getfield 15, 3) := by decide +kernel
theorem dX1_keepSome_49 : decode cX1_keepSome 49 = .ok (.iload_n 3, 1) := by decide +kernel
theorem dX1_keepSome_50 : decode cX1_keepSome 50 = .ok (.ifCond .eq 10, 3) := by decide +kernel
theorem dX1_keepSome_53 : decode cX1_keepSome 53 = .ok (.aload_n 0, 1) := by decide +kernel
theorem dX1_keepSome_54 : decode cX1_keepSome 54 = .ok (.getfield 15, 3) := by decide +kernel
theorem dX1_keepSome_57 : decode cX1_keepSome 57 = .ok (.goto 7, 3) := by decide +kernel
theorem dX1_keepSome_60 : decode cX1_keepSome 60 = .ok (.aload_n 0, 1) := by decide +kernel
theorem dX1_keepSome_61 : decode cX1_keepSome 61 = .ok (.getfield 9, 3) := by decide +kernel
theorem dX1_keepSome_64 : decode cX1_keepSome 64 = .ok (.invokevirtual 41, 3) := by decide +kernel
theorem dX1_keepSome_67 : decode cX1_keepSome 67 = .ok (.iinc 2 1, 3) := by decide +kernel
theorem dX1_keepSome_70 : decode cX1_keepSome 70 = .ok (.goto (-68), 3) := by decide +kernel
theorem dX1_keepSome_73 : decode cX1_keepSome 73 = .ok (.aload_n 0, 1) := by decide +kernel
theorem dX1_keepSome_74 : decode cX1_keepSome 74 = .ok (.iconst 0, 1) := by decide +kernel
theorem dX1_keepSome_75 : decode cX1_keepSome 75 = .ok (.putfield 25, 3) := by decide +kernel
theorem dX1_keepSome_78 : decode cX1_keepSome 78 = .ok (.return_, 1) := by decide +kernel
theorem dX1_settleLine_0 : decode cX1_settleLine 0 = .ok (.iload_n 1, 1) := by decide +kernel
theorem dX1_settleLine_1 : decode cX1_settleLine 1 = .ok (.ifCond .lt 10, 3) := by decide +kernel
theorem dX1_settleLine_4 : decode cX1_settleLine 4 = .ok (.iload_n 1, 1) := by decide +kernel
theorem dX1_settleLine_5 : decode cX1_settleLine 5 = .ok (.sipush 512, 3) := by decide +kernel
theorem dX1_settleLine_8 : decode cX1_settleLine 8 = .ok (.if_icmp .lt 4, 3) := by decide +kernel
theorem dX1_settleLine_11 : decode cX1_settleLine 11 = .ok (.return_, 1) := by decide +kernel
theorem dX1_settleLine_12 : decode cX1_settleLine 12 = .ok (.aload_n 0, 1) := by decide +kernel
theorem dX1_settleLine_13 : decode cX1_settleLine 13 = .ok (.getfield 21, 3) := by decide +kernel
theorem dX1_settleLine_16 : decode cX1_settleLine 16 = .ok (.iload_n 1, 1) := by decide +kernel
theorem dX1_settleLine_17 : decode cX1_settleLine 17 = .ok (.iconst 0, 1) := by decide +kernel
theorem dX1_settleLine_18 : decode cX1_settleLine 18 = .ok (.bastore, 1) := by decide +kernel
theorem dX1_settleLine_19 : decode cX1_settleLine 19 = .ok (.iload_n 1, 1) := by decide +kernel
theorem dX1_settleLine_20 : decode cX1_settleLine 20 = .ok (.bipush 8, 2) := by decide +kernel
theorem dX1_settleLine_22 : decode cX1_settleLine 22 = .ok (.imul, 1) := by decide +kernel
theorem dX1_settleLine_23 : decode cX1_settleLine 23 = .ok (.istore 4, 2) := by decide +kernel
theorem dX1_settleLine_25 : decode cX1_settleLine 25 = .ok (.iload 4, 2) := by decide +kernel
theorem dX1_settleLine_27 : decode cX1_settleLine 27 = .ok (.iload_n 1, 1) := by decide +kernel
theorem dX1_settleLine_28 : decode cX1_settleLine 28 = .ok (.iconst 1, 1) := by decide +kernel
theorem dX1_settleLine_29 : decode cX1_settleLine 29 = .ok (.iadd, 1) := by decide +kernel
theorem dX1_settleLine_30 : decode cX1_settleLine 30 = .ok (.bipush 8, 2) := by decide +kernel
theorem dX1_settleLine_32 : decode cX1_settleLine 32 = .ok (.imul, 1) := by decide +kernel
theorem dX1_settleLine_33 : decode cX1_settleLine 33 = .ok (.if_icmp .ge 17, 3) := by decide +kernel
theorem dX1_settleLine_36 : decode cX1_settleLine 36 = .ok (.aload_n 3, 1) := by decide +kernel
theorem dX1_settleLine_37 : decode cX1_settleLine 37 = .ok (.iload 4, 2) := by decide +kernel
theorem dX1_settleLine_39 : decode cX1_settleLine 39 = .ok (.aload_n 2, 1) := by decide +kernel
theorem dX1_settleLine_40 : decode cX1_settleLine 40 = .ok (.iload 4, 2) := by decide +kernel
theorem dX1_settleLine_42 : decode cX1_settleLine 42 = .ok (.iaload, 1) := by decide +kernel
theorem dX1_settleLine_43 : decode cX1_settleLine 43 = .ok (.iastore, 1) := by decide +kernel
theorem dX1_settleLine_44 : decode cX1_settleLine 44 = .ok (.iinc 4 1, 3) := by decide +kernel
theorem dX1_settleLine_47 : decode cX1_settleLine 47 = .ok (.goto (-22), 3) := by decide +kernel
theorem dX1_settleLine_50 : decode cX1_settleLine 50 = .ok (.return_, 1) := by decide +kernel
set_option maxRecDepth 20000 in
theorem ggX2_init_X1_init : GoodIn wsX2_init wsX1_init := goodIn_r _ [19, 20, 2, 3, 12, 21, 22, 23, 24, 25, 26, 35, 36, 37, 38, 39] (by decide +kernel) (by decide +kernel)
set_option maxRecDepth 20000 in
theorem gX2_init_X1_init_n9 : GoodIn wsX2_init (wsX1_init) := ggX2_init_X1_init
set_option maxRecDepth 20000 in
theorem ggX2_init_X0_init : GoodIn wsX2_init wsX0_init := goodIn_r _ [29, 30, 2, 3, 12, 31, 32, 33, 34, 47, 48, 49, 50] (by decide +kernel) (by decide +kernel)
set_option maxRecDepth 20000 in
theorem gX2_init_X0_init : GoodIn wsX2_init (wsX0_init) := ggX2_init_X0_init
theorem dX2_init_0 : decode cX2_init 0 = .ok (.aload_n 0, 1) := by decide +kernel
theorem dX2_init_1 : decode cX2_init 1 = .ok (.invokespecial 1, 3) := by decide +kernel
theorem dX2_init_4 : decode cX2_init 4 = .ok (.aload_n 0, 1) := by decide +kernel
theorem dX2_init_5 : decode cX2_init 5 = .ok (.new 7, 3) := by decide +kernel
theorem dX2_init_8 : decode cX2_init 8 = .ok (.dup, 1) := by decide +kernel
theorem dX2_init_9 : decode cX2_init 9 = .ok (.invokespecial 9, 3) := by decide +kernel
theorem dX2_init_12 : decode cX2_init 12 = .ok (.putfield 10, 3) := by decide +kernel
theorem dX2_init_15 : decode cX2_init 15 = .ok (.aload_n 0, 1) := by decide +kernel
theorem dX2_init_16 : decode cX2_init 16 = .ok (.new 16, 3) := by decide +kernel
theorem dX2_init_19 : decode cX2_init 19 = .ok (.dup, 1) := by decide +kernel
theorem dX2_init_20 : decode cX2_init 20 = .ok (.invokespecial 18, 3) := by decide +kernel
theorem dX2_init_23 : decode cX2_init 23 = .ok (.putfield 19, 3) := by decide +kernel
theorem dX2_init_26 : decode cX2_init 26 = .ok (.aload_n 0, 1) := by decide +kernel
theorem dX2_init_27 : decode cX2_init 27 = .ok (.sipush 2040, 3) := by decide +kernel
theorem dX2_init_30 : decode cX2_init 30 = .ok (.newarray .int, 2) := by decide +kernel
theorem dX2_init_32 : decode cX2_init 32 = .ok (.putfield 23, 3) := by decide +kernel
theorem dX2_init_35 : decode cX2_init 35 = .ok (.aload_n 0, 1) := by decide +kernel
theorem dX2_init_36 : decode cX2_init 36 = .ok (.iconst 0, 1) := by decide +kernel
theorem dX2_init_37 : decode cX2_init 37 = .ok (.putfield 27, 3) := by decide +kernel
theorem dX2_init_40 : decode cX2_init 40 = .ok (.aload_n 0, 1) := by decide +kernel
theorem dX2_init_41 : decode cX2_init 41 = .ok (.iconst 0, 1) := by decide +kernel
theorem dX2_init_42 : decode cX2_init 42 = .ok (.putfield 31, 3) := by decide +kernel
theorem dX2_init_45 : decode cX2_init 45 = .ok (.aload_n 0, 1) := by decide +kernel
theorem dX2_init_46 : decode cX2_init 46 = .ok (.iconst 0, 1) := by decide +kernel
theorem dX2_init_47 : decode cX2_init 47 = .ok (.putfield 34, 3) := by decide +kernel
theorem dX2_init_50 : decode cX2_init 50 = .ok (.aload_n 0, 1) := by decide +kernel
theorem dX2_init_51 : decode cX2_init 51 = .ok (.iconst 0, 1) := by decide +kernel
theorem dX2_init_52 : decode cX2_init 52 = .ok (.putfield 37, 3) := by decide +kernel
theorem dX2_init_55 : decode cX2_init 55 = .ok (.return_, 1) := by decide +kernel
set_option maxRecDepth 20000 in
theorem ggX2_alloc_X2_isShape : GoodIn wsX2_alloc wsX2_isShape := goodIn_r _ [6] (by decide +kernel) (by decide +kernel)
set_option maxRecDepth 20000 in
theorem gX2_alloc_X2_isShape : GoodIn wsX2_alloc (va_wsS RX2 40 yX2_isShape wsX2_isShape) := goodIn_app (goodIn_of _ (by decide +kernel)) ggX2_alloc_X2_isShape
set_option maxRecDepth 20000 in
theorem ggX2_alloc_X2_answer : GoodIn wsX2_alloc wsX2_answer := goodIn_r _ [10, 11, 113, 114, 115, 116, 117, 118, 119] (by decide +kernel) (by decide +kernel)
set_option maxRecDepth 20000 in
theorem gX2_alloc_X2_answer : GoodIn wsX2_alloc (wsV RX2 44 RX2 yX2_answer wsX2_answer) := goodIn_app (goodIn_of _ (by decide +kernel)) ggX2_alloc_X2_answer
set_option maxRecDepth 20000 in
theorem ggX2_alloc_X0_placeFor : GoodIn wsX2_alloc wsX0_placeFor := goodIn_r _ [16, 17, 5, 18, 19, 20, 21, 22, 15, 23, 24, 25, 26, 27, 28, 29, 30, 31, 32, 33, 34, 35, 36, 37, 38, 39, 40, 41, 42, 43, 44, 45, 46, 47, 48, 49, 50, 51, 52, 53, 54, 55, 56, 57, 58, 59, 60, 61, 62, 63, 64, 65, 66, 67, 68, 120, 121, 122, 123] (by decide +kernel) (by decide +kernel)
set_option maxRecDepth 20000 in
theorem gX2_alloc_X0_placeFor : GoodIn wsX2_alloc (wsV RX2 48 RX0 yX0_placeFor wsX0_placeFor) := goodIn_app (goodIn_of _ (by decide +kernel)) ggX2_alloc_X0_placeFor
set_option maxRecDepth 20000 in
theorem ggX2_alloc_X0_add : GoodIn wsX2_alloc wsX0_add := goodIn_r _ [72, 44, 73, 74, 15, 75, 17, 5, 18, 19, 76, 77, 78, 79, 28, 29, 30, 31, 45, 46, 47, 80, 81, 82, 83, 52, 53, 84, 85, 86, 87, 36, 37, 38, 39, 88, 89, 90, 120, 121, 122, 123] (by decide +kernel) (by decide +kernel)
set_option maxRecDepth 20000 in
theorem gX2_alloc_X0_add : GoodIn wsX2_alloc (wsV RX2 52 RX0 yX0_add wsX0_add) := goodIn_app (goodIn_of _ (by decide +kernel)) ggX2_alloc_X0_add
set_option maxRecDepth 20000 in
theorem ggX2_alloc_X2_headOf : GoodIn wsX2_alloc wsX2_headOf := goodIn_r _ [93, 94, 95, 96, 97, 98] (by decide +kernel) (by decide +kernel)
set_option maxRecDepth 20000 in
theorem gX2_alloc_X2_headOf : GoodIn wsX2_alloc (va_wsS RX2 56 yX2_headOf wsX2_headOf) := goodIn_app (goodIn_of _ (by decide +kernel)) ggX2_alloc_X2_headOf
set_option maxRecDepth 20000 in
theorem ggX2_alloc_X1_write : GoodIn wsX2_alloc wsX1_write := goodIn_r _ [103, 104, 105, 106, 107, 108, 5, 109, 124, 125, 126, 127, 128] (by decide +kernel) (by decide +kernel)
set_option maxRecDepth 20000 in
theorem gX2_alloc_X1_write : GoodIn wsX2_alloc (wsV RX2 60 RX1 yX1_write wsX1_write) := goodIn_app (goodIn_of _ (by decide +kernel)) ggX2_alloc_X1_write
set_option maxRecDepth 20000 in
theorem ggX2_alloc_X2_wordOf : GoodIn wsX2_alloc wsX2_wordOf := goodIn_r _ [112] (by decide +kernel) (by decide +kernel)
set_option maxRecDepth 20000 in
theorem gX2_alloc_X2_wordOf : GoodIn wsX2_alloc (va_wsS RX2 63 yX2_wordOf wsX2_wordOf) := goodIn_app (goodIn_of _ (by decide +kernel)) ggX2_alloc_X2_wordOf
theorem dX2_alloc_0 : decode cX2_alloc 0 = .ok (.iload_n 1, 1) := by decide +kernel
theorem dX2_alloc_1 : decode cX2_alloc 1 = .ok (.iload_n 2, 1) := by decide +kernel
theorem dX2_alloc_2 : decode cX2_alloc 2 = .ok (.invokestatic 40, 3) := by decide +kernel
theorem dX2_alloc_5 : decode cX2_alloc 5 = .ok (.ifCond .ne 10, 3) := by decide +kernel
theorem dX2_alloc_8 : decode cX2_alloc 8 = .ok (.aload_n 0, 1) := by decide +kernel
theorem dX2_alloc_9 : decode cX2_alloc 9 = .ok (.iconst 3, 1) := by decide +kernel
theorem dX2_alloc_10 : decode cX2_alloc 10 = .ok (.iconst (-1), 1) := by decide +kernel
theorem dX2_alloc_11 : decode cX2_alloc 11 = .ok (.invokevirtual 44, 3) := by decide +kernel
theorem dX2_alloc_14 : decode cX2_alloc 14 = .ok (.ireturn, 1) := by decide +kernel
theorem dX2_alloc_15 : decode cX2_alloc 15 = .ok (.aload_n 0, 1) := by decide +kernel
theorem dX2_alloc_16 : decode cX2_alloc 16 = .ok (.getfield 19, 3) := by decide +kernel
theorem dX2_alloc_19 : decode cX2_alloc 19 = .ok (.iload_n 1, 1) := by decide +kernel
theorem dX2_alloc_20 : decode cX2_alloc 20 = .ok (.invokevirtual 48, 3) := by decide +kernel
theorem dX2_alloc_23 : decode cX2_alloc 23 = .ok (.istore_n 3, 1) := by decide +kernel
theorem dX2_alloc_24 : decode cX2_alloc 24 = .ok (.iload_n 3, 1) := by decide +kernel
theorem dX2_alloc_25 : decode cX2_alloc 25 = .ok (.iconst (-1), 1) := by decide +kernel
theorem dX2_alloc_26 : decode cX2_alloc 26 = .ok (.if_icmp .ne 10, 3) := by decide +kernel
theorem dX2_alloc_29 : decode cX2_alloc 29 = .ok (.aload_n 0, 1) := by decide +kernel
theorem dX2_alloc_30 : decode cX2_alloc 30 = .ok (.iconst 1, 1) := by decide +kernel
theorem dX2_alloc_31 : decode cX2_alloc 31 = .ok (.iconst (-1), 1) := by decide +kernel
theorem dX2_alloc_32 : decode cX2_alloc 32 = .ok (.invokevirtual 44, 3) := by decide +kernel
theorem dX2_alloc_35 : decode cX2_alloc 35 = .ok (.ireturn, 1) := by decide +kernel
theorem dX2_alloc_36 : decode cX2_alloc 36 = .ok (.aload_n 0, 1) := by decide +kernel
theorem dX2_alloc_37 : decode cX2_alloc 37 = .ok (.getfield 19, 3) := by decide +kernel
theorem dX2_alloc_40 : decode cX2_alloc 40 = .ok (.iload_n 3, 1) := by decide +kernel
theorem dX2_alloc_41 : decode cX2_alloc 41 = .ok (.iload_n 1, 1) := by decide +kernel
theorem dX2_alloc_42 : decode cX2_alloc 42 = .ok (.invokevirtual 52, 3) := by decide +kernel
theorem dX2_alloc_45 : decode cX2_alloc 45 = .ok (.aload_n 0, 1) := by decide +kernel
theorem dX2_alloc_46 : decode cX2_alloc 46 = .ok (.getfield 10, 3) := by decide +kernel
theorem dX2_alloc_49 : decode cX2_alloc 49 = .ok (.iload_n 3, 1) := by decide +kernel
theorem dX2_alloc_50 : decode cX2_alloc 50 = .ok (.iload_n 3, 1) := by decide +kernel
theorem dX2_alloc_51 : decode cX2_alloc 51 = .ok (.iload_n 1, 1) := by decide +kernel
theorem dX2_alloc_52 : decode cX2_alloc 52 = .ok (.iload_n 2, 1) := by decide +kernel
theorem dX2_alloc_53 : decode cX2_alloc 53 = .ok (.invokestatic 56, 3) := by decide +kernel
theorem dX2_alloc_56 : decode cX2_alloc 56 = .ok (.invokevirtual 60, 3) := by decide +kernel
theorem dX2_alloc_59 : decode cX2_alloc 59 = .ok (.iconst 0, 1) := by decide +kernel
theorem dX2_alloc_60 : decode cX2_alloc 60 = .ok (.istore 4, 2) := by decide +kernel
theorem dX2_alloc_62 : decode cX2_alloc 62 = .ok (.iload 4, 2) := by decide +kernel
theorem dX2_alloc_64 : decode cX2_alloc 64 = .ok (.iload_n 1, 1) := by decide +kernel
theorem dX2_alloc_65 : decode cX2_alloc 65 = .ok (.if_icmp .ge 23, 3) := by decide +kernel
theorem dX2_alloc_68 : decode cX2_alloc 68 = .ok (.aload_n 0, 1) := by decide +kernel
theorem dX2_alloc_69 : decode cX2_alloc 69 = .ok (.getfield 10, 3) := by decide +kernel
theorem dX2_alloc_72 : decode cX2_alloc 72 = .ok (.iload_n 3, 1) := by decide +kernel
theorem dX2_alloc_73 : decode cX2_alloc 73 = .ok (.iload 4, 2) := by decide +kernel
theorem dX2_alloc_75 : decode cX2_alloc 75 = .ok (.invokestatic 63, 3) := by decide +kernel
theorem dX2_alloc_78 : decode cX2_alloc 78 = .ok (.iconst 0, 1) := by decide +kernel
theorem dX2_alloc_79 : decode cX2_alloc 79 = .ok (.invokevirtual 60, 3) := by decide +kernel
theorem dX2_alloc_82 : decode cX2_alloc 82 = .ok (.iinc 4 1, 3) := by decide +kernel
theorem dX2_alloc_85 : decode cX2_alloc 85 = .ok (.goto (-23), 3) := by decide +kernel
theorem dX2_alloc_88 : decode cX2_alloc 88 = .ok (.aload_n 0, 1) := by decide +kernel
theorem dX2_alloc_89 : decode cX2_alloc 89 = .ok (.iconst 0, 1) := by decide +kernel
theorem dX2_alloc_90 : decode cX2_alloc 90 = .ok (.iload_n 3, 1) := by decide +kernel
theorem dX2_alloc_91 : decode cX2_alloc 91 = .ok (.invokevirtual 44, 3) := by decide +kernel
theorem dX2_alloc_94 : decode cX2_alloc 94 = .ok (.ireturn, 1) := by decide +kernel
set_option maxRecDepth 20000 in
theorem ggX2_free_X0_isLive : GoodIn wsX2_free wsX0_isLive := goodIn_r _ [6, 7, 8, 5, 9, 10, 11, 12, 13, 14, 15, 16, 17, 18, 19, 20, 21, 22, 23, 24, 25, 26, 27, 117, 118, 119, 120] (by decide +kernel) (by decide +kernel)
set_option maxRecDepth 20000 in
theorem gX2_free_X0_isLive : GoodIn wsX2_free (wsV RX2 66 RX0 yX0_isLive wsX0_isLive) := goodIn_app (goodIn_of _ (by decide +kernel)) ggX2_free_X0_isLive
set_option maxRecDepth 20000 in
theorem ggX2_free_X2_answer : GoodIn wsX2_free wsX2_answer := goodIn_r _ [32, 33, 110, 111, 112, 113, 114, 115, 116] (by decide +kernel) (by decide +kernel)
set_option maxRecDepth 20000 in
theorem gX2_free_X2_answer : GoodIn wsX2_free (wsV RX2 44 RX2 yX2_answer wsX2_answer) := goodIn_app (goodIn_of _ (by decide +kernel)) ggX2_free_X2_answer
set_option maxRecDepth 20000 in
theorem ggX2_free_X2_leadsTo : GoodIn wsX2_free wsX2_leadsTo := goodIn_r _ [37, 38, 39, 40, 31, 41, 42, 43, 44, 45, 46, 47, 48, 49, 50, 51, 52, 53, 54, 1, 55, 56, 57, 58, 5, 59, 14, 15, 16, 17, 18, 19, 60, 61, 62, 63, 23, 24, 25, 26, 27, 64, 65, 66, 67, 68, 69, 70, 71, 72, 73, 74, 75, 76, 77, 110, 111, 112, 113, 114, 115, 116, 121, 122, 123, 124, 125, 117, 118, 119, 120] (by decide +kernel) (by decide +kernel)
set_option maxRecDepth 20000 in
theorem gX2_free_X2_leadsTo : GoodIn wsX2_free (wsV RX2 70 RX2 yX2_leadsTo wsX2_leadsTo) := goodIn_app (goodIn_of _ (by decide +kernel)) ggX2_free_X2_leadsTo
set_option maxRecDepth 20000 in
theorem ggX2_free_X2_lengthOf : GoodIn wsX2_free wsX2_lengthOf := goodIn_r _ [81, 82, 83, 84, 31, 85, 42, 43, 44, 45, 46, 47, 48, 49, 50, 86, 87, 88, 110, 111, 112, 113, 114, 115, 116, 121, 122, 123, 124, 125] (by decide +kernel) (by decide +kernel)
set_option maxRecDepth 20000 in
theorem gX2_free_X2_lengthOf : GoodIn wsX2_free (wsV RX2 73 RX2 yX2_lengthOf wsX2_lengthOf) := goodIn_app (goodIn_of _ (by decide +kernel)) ggX2_free_X2_lengthOf
set_option maxRecDepth 20000 in
theorem ggX2_free_X2_release : GoodIn wsX2_free wsX2_release := goodIn_r _ [92, 1, 42, 93, 94, 95, 5, 96, 27, 18, 19, 7, 8, 9, 10, 11, 12, 13, 14, 15, 16, 17, 20, 21, 22, 97, 31, 98, 23, 24, 25, 26, 99, 100, 101, 102, 103, 104, 105, 46, 106, 48, 107, 108, 109, 49, 50, 110, 111, 112, 113, 114, 115, 116, 117, 118, 119, 120, 121, 122, 123, 124, 125] (by decide +kernel) (by decide +kernel)
set_option maxRecDepth 20000 in
theorem gX2_free_X2_release : GoodIn wsX2_free (wsV RX2 76 RX2 yX2_release wsX2_release) := goodIn_app (goodIn_of _ (by decide +kernel)) ggX2_free_X2_release
theorem dX2_free_0 : decode cX2_free 0 = .ok (.aload_n 0, 1) := by decide +kernel
theorem dX2_free_1 : decode cX2_free 1 = .ok (.getfield 19, 3) := by decide +kernel
theorem dX2_free_4 : decode cX2_free 4 = .ok (.iload_n 1, 1) := by decide +kernel
theorem dX2_free_5 : decode cX2_free 5 = .ok (.invokevirtual 66, 3) := by decide +kernel
theorem dX2_free_8 : decode cX2_free 8 = .ok (.ifCond .ne 10, 3) := by decide +kernel
theorem dX2_free_11 : decode cX2_free 11 = .ok (.aload_n 0, 1) := by decide +kernel
theorem dX2_free_12 : decode cX2_free 12 = .ok (.iconst 2, 1) := by decide +kernel
theorem dX2_free_13 : decode cX2_free 13 = .ok (.iconst (-1), 1) := by decide +kernel
theorem dX2_free_14 : decode cX2_free 14 = .ok (.invokevirtual 44, 3) := by decide +kernel
theorem dX2_free_17 : decode cX2_free 17 = .ok (.ireturn, 1) := by decide +kernel
theorem dX2_free_18 : decode cX2_free 18 = .ok (.aload_n 0, 1) := by decide +kernel
theorem dX2_free_19 : decode cX2_free 19 = .ok (.iload_n 1, 1) := by decide +kernel
theorem dX2_free_20 : decode cX2_free 20 = .ok (.invokevirtual 70, 3) := by decide +kernel
theorem dX2_free_23 : decode cX2_free 23 = .ok (.ifCond .le 10, 3) := by decide +kernel
theorem dX2_free_26 : decode cX2_free 26 = .ok (.aload_n 0, 1) := by decide +kernel
theorem dX2_free_27 : decode cX2_free 27 = .ok (.iconst 4, 1) := by decide +kernel
theorem dX2_free_28 : decode cX2_free 28 = .ok (.iconst (-1), 1) := by decide +kernel
theorem dX2_free_29 : decode cX2_free 29 = .ok (.invokevirtual 44, 3) := by decide +kernel
theorem dX2_free_32 : decode cX2_free 32 = .ok (.ireturn, 1) := by decide +kernel
theorem dX2_free_33 : decode cX2_free 33 = .ok (.aload_n 0, 1) := by decide +kernel
theorem dX2_free_34 : decode cX2_free 34 = .ok (.iload_n 1, 1) := by decide +kernel
theorem dX2_free_35 : decode cX2_free 35 = .ok (.invokevirtual 73, 3) := by decide +kernel
theorem dX2_free_38 : decode cX2_free 38 = .ok (.istore_n 2, 1) := by decide +kernel
theorem dX2_free_39 : decode cX2_free 39 = .ok (.aload_n 0, 1) := by decide +kernel
theorem dX2_free_40 : decode cX2_free 40 = .ok (.iload_n 1, 1) := by decide +kernel
theorem dX2_free_41 : decode cX2_free 41 = .ok (.invokevirtual 76, 3) := by decide +kernel
theorem dX2_free_44 : decode cX2_free 44 = .ok (.aload_n 0, 1) := by decide +kernel
theorem dX2_free_45 : decode cX2_free 45 = .ok (.iconst 0, 1) := by decide +kernel
theorem dX2_free_46 : decode cX2_free 46 = .ok (.iload_n 2, 1) := by decide +kernel
theorem dX2_free_47 : decode cX2_free 47 = .ok (.invokevirtual 44, 3) := by decide +kernel
theorem dX2_free_50 : decode cX2_free 50 = .ok (.ireturn, 1) := by decide +kernel
set_option maxRecDepth 20000 in
theorem ggX2_put_X2_hasWord : GoodIn wsX2_put wsX2_hasWord := goodIn_r _ [6, 7, 8, 9, 10, 11, 12, 13, 14, 15, 16, 17, 18, 19, 20, 21, 22, 23, 24, 25, 26, 27, 28, 29, 30, 31, 32, 33, 34, 35, 36, 5, 37, 1, 38, 39, 40, 41, 42, 43, 44, 45, 46, 47, 48, 71, 72, 73, 74, 75, 76, 77, 78, 79, 80, 81, 82, 83, 84, 85, 86] (by decide +kernel) (by decide +kernel)
set_option maxRecDepth 20000 in
theorem gX2_put_X2_hasWord : GoodIn wsX2_put (wsV RX2 80 RX2 yX2_hasWord wsX2_hasWord) := goodIn_app (goodIn_of _ (by decide +kernel)) ggX2_put_X2_hasWord
set_option maxRecDepth 20000 in
theorem ggX2_put_X2_refsOf : GoodIn wsX2_put wsX2_refsOf := goodIn_r _ [52, 1, 38, 39, 40, 41, 42, 43, 44, 5, 45, 53, 54, 55, 71, 72, 73, 74, 75, 76, 77, 82, 83, 84, 85, 86] (by decide +kernel) (by decide +kernel)
set_option maxRecDepth 20000 in
theorem gX2_put_X2_refsOf : GoodIn wsX2_put (wsV RX2 83 RX2 yX2_refsOf wsX2_refsOf) := goodIn_app (goodIn_of _ (by decide +kernel)) ggX2_put_X2_refsOf
set_option maxRecDepth 20000 in
theorem ggX2_put_X2_settle : GoodIn wsX2_put wsX2_settle := goodIn_r _ [59, 60, 71, 72, 73, 74, 75, 76, 77] (by decide +kernel) (by decide +kernel)
set_option maxRecDepth 20000 in
theorem gX2_put_X2_settle : GoodIn wsX2_put (wsV RX2 86 RX2 yX2_settle wsX2_settle) := goodIn_app (goodIn_of _ (by decide +kernel)) ggX2_put_X2_settle
set_option maxRecDepth 20000 in
theorem ggX2_put_X2_wordOf : GoodIn wsX2_put wsX2_wordOf := goodIn_r _ [63] (by decide +kernel) (by decide +kernel)
set_option maxRecDepth 20000 in
theorem gX2_put_X2_wordOf : GoodIn wsX2_put (va_wsS RX2 63 yX2_wordOf wsX2_wordOf) := goodIn_app (goodIn_of _ (by decide +kernel)) ggX2_put_X2_wordOf
set_option maxRecDepth 20000 in
theorem ggX2_put_X1_write : GoodIn wsX2_put wsX1_write := goodIn_r _ [67, 43, 68, 69, 70, 44, 5, 45, 82, 83, 84, 85, 86] (by decide +kernel) (by decide +kernel)
set_option maxRecDepth 20000 in
theorem gX2_put_X1_write : GoodIn wsX2_put (wsV RX2 60 RX1 yX1_write wsX1_write) := goodIn_app (goodIn_of _ (by decide +kernel)) ggX2_put_X1_write
theorem dX2_put_0 : decode cX2_put 0 = .ok (.aload_n 0, 1) := by decide +kernel
theorem dX2_put_1 : decode cX2_put 1 = .ok (.iload_n 1, 1) := by decide +kernel
theorem dX2_put_2 : decode cX2_put 2 = .ok (.iload_n 2, 1) := by decide +kernel
theorem dX2_put_3 : decode cX2_put 3 = .ok (.invokevirtual 80, 3) := by decide +kernel
theorem dX2_put_6 : decode cX2_put 6 = .ok (.ifCond .eq 12, 3) := by decide +kernel
theorem dX2_put_9 : decode cX2_put 9 = .ok (.iload_n 2, 1) := by decide +kernel
theorem dX2_put_10 : decode cX2_put 10 = .ok (.aload_n 0, 1) := by decide +kernel
theorem dX2_put_11 : decode cX2_put 11 = .ok (.iload_n 1, 1) := by decide +kernel
theorem dX2_put_12 : decode cX2_put 12 = .ok (.invokevirtual 83, 3) := by decide +kernel
theorem dX2_put_15 : decode cX2_put 15 = .ok (.if_icmp .ge 9, 3) := by decide +kernel
theorem dX2_put_18 : decode cX2_put 18 = .ok (.aload_n 0, 1) := by decide +kernel
theorem dX2_put_19 : decode cX2_put 19 = .ok (.iconst 2, 1) := by decide +kernel
theorem dX2_put_20 : decode cX2_put 20 = .ok (.invokevirtual 86, 3) := by decide +kernel
theorem dX2_put_23 : decode cX2_put 23 = .ok (.ireturn, 1) := by decide +kernel
theorem dX2_put_24 : decode cX2_put 24 = .ok (.aload_n 0, 1) := by decide +kernel
theorem dX2_put_25 : decode cX2_put 25 = .ok (.getfield 10, 3) := by decide +kernel
theorem dX2_put_28 : decode cX2_put 28 = .ok (.iload_n 1, 1) := by decide +kernel
theorem dX2_put_29 : decode cX2_put 29 = .ok (.iload_n 2, 1) := by decide +kernel
theorem dX2_put_30 : decode cX2_put 30 = .ok (.invokestatic 63, 3) := by decide +kernel
theorem dX2_put_33 : decode cX2_put 33 = .ok (.iload_n 3, 1) := by decide +kernel
theorem dX2_put_34 : decode cX2_put 34 = .ok (.invokevirtual 60, 3) := by decide +kernel
theorem dX2_put_37 : decode cX2_put 37 = .ok (.aload_n 0, 1) := by decide +kernel
theorem dX2_put_38 : decode cX2_put 38 = .ok (.iconst 0, 1) := by decide +kernel
theorem dX2_put_39 : decode cX2_put 39 = .ok (.invokevirtual 86, 3) := by decide +kernel
theorem dX2_put_42 : decode cX2_put 42 = .ok (.ireturn, 1) := by decide +kernel
set_option maxRecDepth 20000 in
theorem ggX2_refer_X2_hasWord : GoodIn wsX2_refer wsX2_hasWord := goodIn_r _ [6, 7, 8, 9, 10, 11, 12, 13, 14, 15, 16, 17, 18, 19, 20, 21, 22, 23, 24, 25, 26, 27, 28, 29, 30, 31, 32, 33, 34, 35, 36, 5, 37, 1, 38, 39, 40, 41, 42, 43, 44, 45, 46, 47, 48, 75, 76, 77, 78, 79, 80, 81, 82, 83, 84, 85, 86, 87, 88, 89, 90] (by decide +kernel) (by decide +kernel)
set_option maxRecDepth 20000 in
theorem gX2_refer_X2_hasWord : GoodIn wsX2_refer (wsV RX2 80 RX2 yX2_hasWord wsX2_hasWord) := goodIn_app (goodIn_of _ (by decide +kernel)) ggX2_refer_X2_hasWord
set_option maxRecDepth 20000 in
theorem ggX2_refer_X2_refsOf : GoodIn wsX2_refer wsX2_refsOf := goodIn_r _ [52, 1, 38, 39, 40, 41, 42, 43, 44, 5, 45, 53, 54, 55, 75, 76, 77, 78, 79, 80, 81, 86, 87, 88, 89, 90] (by decide +kernel) (by decide +kernel)
set_option maxRecDepth 20000 in
theorem gX2_refer_X2_refsOf : GoodIn wsX2_refer (wsV RX2 83 RX2 yX2_refsOf wsX2_refsOf) := goodIn_app (goodIn_of _ (by decide +kernel)) ggX2_refer_X2_refsOf
set_option maxRecDepth 20000 in
theorem ggX2_refer_X2_isTarget : GoodIn wsX2_refer wsX2_isTarget := goodIn_r _ [59, 7, 8, 9, 10, 11, 12, 13, 14, 15, 16, 17, 18, 19, 20, 21, 22, 23, 24, 25, 26, 27, 28, 29, 30, 31, 32, 33, 75, 76, 77, 78, 79, 80, 81, 82, 83, 84, 85] (by decide +kernel) (by decide +kernel)
set_option maxRecDepth 20000 in
theorem gX2_refer_X2_isTarget : GoodIn wsX2_refer (wsV RX2 89 RX2 yX2_isTarget wsX2_isTarget) := goodIn_app (goodIn_of _ (by decide +kernel)) ggX2_refer_X2_isTarget
set_option maxRecDepth 20000 in
theorem ggX2_refer_X2_settle : GoodIn wsX2_refer wsX2_settle := goodIn_r _ [63, 64, 75, 76, 77, 78, 79, 80, 81] (by decide +kernel) (by decide +kernel)
set_option maxRecDepth 20000 in
theorem gX2_refer_X2_settle : GoodIn wsX2_refer (wsV RX2 86 RX2 yX2_settle wsX2_settle) := goodIn_app (goodIn_of _ (by decide +kernel)) ggX2_refer_X2_settle
set_option maxRecDepth 20000 in
theorem ggX2_refer_X2_wordOf : GoodIn wsX2_refer wsX2_wordOf := goodIn_r _ [67] (by decide +kernel) (by decide +kernel)
set_option maxRecDepth 20000 in
theorem gX2_refer_X2_wordOf : GoodIn wsX2_refer (va_wsS RX2 63 yX2_wordOf wsX2_wordOf) := goodIn_app (goodIn_of _ (by decide +kernel)) ggX2_refer_X2_wordOf
set_option maxRecDepth 20000 in
theorem ggX2_refer_X1_write : GoodIn wsX2_refer wsX1_write := goodIn_r _ [71, 43, 72, 73, 74, 44, 5, 45, 86, 87, 88, 89, 90] (by decide +kernel) (by decide +kernel)
set_option maxRecDepth 20000 in
theorem gX2_refer_X1_write : GoodIn wsX2_refer (wsV RX2 60 RX1 yX1_write wsX1_write) := goodIn_app (goodIn_of _ (by decide +kernel)) ggX2_refer_X1_write
theorem dX2_refer_0 : decode cX2_refer 0 = .ok (.aload_n 0, 1) := by decide +kernel
theorem dX2_refer_1 : decode cX2_refer 1 = .ok (.iload_n 1, 1) := by decide +kernel
theorem dX2_refer_2 : decode cX2_refer 2 = .ok (.iload_n 2, 1) := by decide +kernel
theorem dX2_refer_3 : decode cX2_refer 3 = .ok (.invokevirtual 80, 3) := by decide +kernel
theorem dX2_refer_6 : decode cX2_refer 6 = .ok (.ifCond .eq 20, 3) := by decide +kernel
theorem dX2_refer_9 : decode cX2_refer 9 = .ok (.iload_n 2, 1) := by decide +kernel
theorem dX2_refer_10 : decode cX2_refer 10 = .ok (.aload_n 0, 1) := by decide +kernel
theorem dX2_refer_11 : decode cX2_refer 11 = .ok (.iload_n 1, 1) := by decide +kernel
theorem dX2_refer_12 : decode cX2_refer 12 = .ok (.invokevirtual 83, 3) := by decide +kernel
theorem dX2_refer_15 : decode cX2_refer 15 = .ok (.if_icmp .ge 11, 3) := by decide +kernel
theorem dX2_refer_18 : decode cX2_refer 18 = .ok (.aload_n 0, 1) := by decide +kernel
theorem dX2_refer_19 : decode cX2_refer 19 = .ok (.iload_n 3, 1) := by decide +kernel
theorem dX2_refer_20 : decode cX2_refer 20 = .ok (.invokevirtual 89, 3) := by decide +kernel
theorem dX2_refer_23 : decode cX2_refer 23 = .ok (.ifCond .ne 9, 3) := by decide +kernel
theorem dX2_refer_26 : decode cX2_refer 26 = .ok (.aload_n 0, 1) := by decide +kernel
theorem dX2_refer_27 : decode cX2_refer 27 = .ok (.iconst 2, 1) := by decide +kernel
theorem dX2_refer_28 : decode cX2_refer 28 = .ok (.invokevirtual 86, 3) := by decide +kernel
theorem dX2_refer_31 : decode cX2_refer 31 = .ok (.ireturn, 1) := by decide +kernel
theorem dX2_refer_32 : decode cX2_refer 32 = .ok (.aload_n 0, 1) := by decide +kernel
theorem dX2_refer_33 : decode cX2_refer 33 = .ok (.getfield 10, 3) := by decide +kernel
theorem dX2_refer_36 : decode cX2_refer 36 = .ok (.iload_n 1, 1) := by decide +kernel
theorem dX2_refer_37 : decode cX2_refer 37 = .ok (.iload_n 2, 1) := by decide +kernel
theorem dX2_refer_38 : decode cX2_refer 38 = .ok (.invokestatic 63, 3) := by decide +kernel
theorem dX2_refer_41 : decode cX2_refer 41 = .ok (.iload_n 3, 1) := by decide +kernel
theorem dX2_refer_42 : decode cX2_refer 42 = .ok (.invokevirtual 60, 3) := by decide +kernel
theorem dX2_refer_45 : decode cX2_refer 45 = .ok (.aload_n 0, 1) := by decide +kernel
theorem dX2_refer_46 : decode cX2_refer 46 = .ok (.iconst 0, 1) := by decide +kernel
theorem dX2_refer_47 : decode cX2_refer 47 = .ok (.invokevirtual 86, 3) := by decide +kernel
theorem dX2_refer_50 : decode cX2_refer 50 = .ok (.ireturn, 1) := by decide +kernel
set_option maxRecDepth 20000 in
theorem ggX2_get_X2_hasWord : GoodIn wsX2_get wsX2_hasWord := goodIn_r _ [6, 7, 8, 9, 10, 11, 12, 13, 14, 15, 16, 17, 18, 19, 20, 21, 22, 23, 24, 25, 26, 27, 28, 29, 30, 31, 32, 33, 34, 35, 36, 5, 37, 1, 38, 39, 40, 41, 42, 43, 44, 45, 46, 47, 48, 52, 53, 54, 55, 56, 57, 58, 59, 60, 61, 62, 63, 64, 65, 66, 67] (by decide +kernel) (by decide +kernel)
set_option maxRecDepth 20000 in
theorem gX2_get_X2_hasWord : GoodIn wsX2_get (wsV RX2 80 RX2 yX2_hasWord wsX2_hasWord) := goodIn_app (goodIn_of _ (by decide +kernel)) ggX2_get_X2_hasWord
set_option maxRecDepth 20000 in
theorem ggX2_get_X2_wordOf : GoodIn wsX2_get wsX2_wordOf := goodIn_r _ [51] (by decide +kernel) (by decide +kernel)
set_option maxRecDepth 20000 in
theorem gX2_get_X2_wordOf : GoodIn wsX2_get (va_wsS RX2 63 yX2_wordOf wsX2_wordOf) := goodIn_app (goodIn_of _ (by decide +kernel)) ggX2_get_X2_wordOf
set_option maxRecDepth 20000 in
theorem ggX2_get_X1_at : GoodIn wsX2_get wsX1_at := goodIn_r _ [42, 43, 44, 5, 45, 63, 64, 65, 66, 67] (by decide +kernel) (by decide +kernel)
set_option maxRecDepth 20000 in
theorem gX2_get_X1_at : GoodIn wsX2_get (wsV RX2 92 RX1 yX1_at wsX1_at) := goodIn_app (goodIn_of _ (by decide +kernel)) ggX2_get_X1_at
theorem dX2_get_0 : decode cX2_get 0 = .ok (.aload_n 0, 1) := by decide +kernel
theorem dX2_get_1 : decode cX2_get 1 = .ok (.iload_n 1, 1) := by decide +kernel
theorem dX2_get_2 : decode cX2_get 2 = .ok (.iload_n 2, 1) := by decide +kernel
theorem dX2_get_3 : decode cX2_get 3 = .ok (.invokevirtual 80, 3) := by decide +kernel
theorem dX2_get_6 : decode cX2_get 6 = .ok (.ifCond .eq 18, 3) := by decide +kernel
theorem dX2_get_9 : decode cX2_get 9 = .ok (.aload_n 0, 1) := by decide +kernel
theorem dX2_get_10 : decode cX2_get 10 = .ok (.getfield 10, 3) := by decide +kernel
theorem dX2_get_13 : decode cX2_get 13 = .ok (.iload_n 1, 1) := by decide +kernel
theorem dX2_get_14 : decode cX2_get 14 = .ok (.iload_n 2, 1) := by decide +kernel
theorem dX2_get_15 : decode cX2_get 15 = .ok (.invokestatic 63, 3) := by decide +kernel
theorem dX2_get_18 : decode cX2_get 18 = .ok (.invokevirtual 92, 3) := by decide +kernel
theorem dX2_get_21 : decode cX2_get 21 = .ok (.goto 4, 3) := by decide +kernel
theorem dX2_get_24 : decode cX2_get 24 = .ok (.iconst 0, 1) := by decide +kernel
theorem dX2_get_25 : decode cX2_get 25 = .ok (.ireturn, 1) := by decide +kernel
set_option maxRecDepth 20000 in
theorem ggX2_root_X2_isRoot : GoodIn wsX2_root wsX2_isRoot := goodIn_r _ [5] (by decide +kernel) (by decide +kernel)
set_option maxRecDepth 20000 in
theorem gX2_root_X2_isRoot : GoodIn wsX2_root (va_wsS RX2 95 yX2_isRoot wsX2_isRoot) := goodIn_app (goodIn_of _ (by decide +kernel)) ggX2_root_X2_isRoot
set_option maxRecDepth 20000 in
theorem ggX2_root_X2_isTarget : GoodIn wsX2_root wsX2_isTarget := goodIn_r _ [9, 10, 11, 12, 13, 14, 15, 16, 17, 18, 19, 20, 21, 22, 23, 24, 25, 26, 27, 28, 29, 30, 31, 32, 33, 34, 35, 36, 53, 54, 55, 56, 57, 58, 59, 60, 61, 62, 63] (by decide +kernel) (by decide +kernel)
set_option maxRecDepth 20000 in
theorem gX2_root_X2_isTarget : GoodIn wsX2_root (wsV RX2 89 RX2 yX2_isTarget wsX2_isTarget) := goodIn_app (goodIn_of _ (by decide +kernel)) ggX2_root_X2_isTarget
set_option maxRecDepth 20000 in
theorem ggX2_root_X2_settle : GoodIn wsX2_root wsX2_settle := goodIn_r _ [40, 41, 53, 54, 55, 56, 57, 58, 59] (by decide +kernel) (by decide +kernel)
set_option maxRecDepth 20000 in
theorem gX2_root_X2_settle : GoodIn wsX2_root (wsV RX2 86 RX2 yX2_settle wsX2_settle) := goodIn_app (goodIn_of _ (by decide +kernel)) ggX2_root_X2_settle
set_option maxRecDepth 20000 in
theorem ggX2_root_X1_write : GoodIn wsX2_root wsX1_write := goodIn_r _ [46, 47, 48, 49, 50, 51, 4, 52, 64, 65, 66, 67, 68] (by decide +kernel) (by decide +kernel)
set_option maxRecDepth 20000 in
theorem gX2_root_X1_write : GoodIn wsX2_root (wsV RX2 60 RX1 yX1_write wsX1_write) := goodIn_app (goodIn_of _ (by decide +kernel)) ggX2_root_X1_write
theorem dX2_root_0 : decode cX2_root 0 = .ok (.iload_n 1, 1) := by decide +kernel
theorem dX2_root_1 : decode cX2_root 1 = .ok (.invokestatic 95, 3) := by decide +kernel
theorem dX2_root_4 : decode cX2_root 4 = .ok (.ifCond .eq 11, 3) := by decide +kernel
theorem dX2_root_7 : decode cX2_root 7 = .ok (.aload_n 0, 1) := by decide +kernel
theorem dX2_root_8 : decode cX2_root 8 = .ok (.iload_n 2, 1) := by decide +kernel
theorem dX2_root_9 : decode cX2_root 9 = .ok (.invokevirtual 89, 3) := by decide +kernel
theorem dX2_root_12 : decode cX2_root 12 = .ok (.ifCond .ne 9, 3) := by decide +kernel
theorem dX2_root_15 : decode cX2_root 15 = .ok (.aload_n 0, 1) := by decide +kernel
theorem dX2_root_16 : decode cX2_root 16 = .ok (.iconst 2, 1) := by decide +kernel
theorem dX2_root_17 : decode cX2_root 17 = .ok (.invokevirtual 86, 3) := by decide +kernel
theorem dX2_root_20 : decode cX2_root 20 = .ok (.ireturn, 1) := by decide +kernel
theorem dX2_root_21 : decode cX2_root 21 = .ok (.aload_n 0, 1) := by decide +kernel
theorem dX2_root_22 : decode cX2_root 22 = .ok (.getfield 10, 3) := by decide +kernel
theorem dX2_root_25 : decode cX2_root 25 = .ok (.iconst 1, 1) := by decide +kernel
theorem dX2_root_26 : decode cX2_root 26 = .ok (.iload_n 1, 1) := by decide +kernel
theorem dX2_root_27 : decode cX2_root 27 = .ok (.iadd, 1) := by decide +kernel
theorem dX2_root_28 : decode cX2_root 28 = .ok (.iload_n 2, 1) := by decide +kernel
theorem dX2_root_29 : decode cX2_root 29 = .ok (.invokevirtual 60, 3) := by decide +kernel
theorem dX2_root_32 : decode cX2_root 32 = .ok (.aload_n 0, 1) := by decide +kernel
theorem dX2_root_33 : decode cX2_root 33 = .ok (.iconst 0, 1) := by decide +kernel
theorem dX2_root_34 : decode cX2_root 34 = .ok (.invokevirtual 86, 3) := by decide +kernel
theorem dX2_root_37 : decode cX2_root 37 = .ok (.ireturn, 1) := by decide +kernel
set_option maxRecDepth 20000 in
theorem ggX2_rootOf_X2_isRoot : GoodIn wsX2_rootOf wsX2_isRoot := goodIn_r _ [5] (by decide +kernel) (by decide +kernel)
set_option maxRecDepth 20000 in
theorem gX2_rootOf_X2_isRoot : GoodIn wsX2_rootOf (va_wsS RX2 95 yX2_isRoot wsX2_isRoot) := goodIn_app (goodIn_of _ (by decide +kernel)) ggX2_rootOf_X2_isRoot
set_option maxRecDepth 20000 in
theorem ggX2_rootOf_X1_at : GoodIn wsX2_rootOf wsX1_at := goodIn_r _ [10, 11, 12, 4, 13, 21, 22, 23, 24, 25] (by decide +kernel) (by decide +kernel)
set_option maxRecDepth 20000 in
theorem gX2_rootOf_X1_at : GoodIn wsX2_rootOf (wsV RX2 92 RX1 yX1_at wsX1_at) := goodIn_app (goodIn_of _ (by decide +kernel)) ggX2_rootOf_X1_at
theorem dX2_rootOf_0 : decode cX2_rootOf 0 = .ok (.iload_n 1, 1) := by decide +kernel
theorem dX2_rootOf_1 : decode cX2_rootOf 1 = .ok (.invokestatic 95, 3) := by decide +kernel
theorem dX2_rootOf_4 : decode cX2_rootOf 4 = .ok (.ifCond .eq 16, 3) := by decide +kernel
theorem dX2_rootOf_7 : decode cX2_rootOf 7 = .ok (.aload_n 0, 1) := by decide +kernel
theorem dX2_rootOf_8 : decode cX2_rootOf 8 = .ok (.getfield 10, 3) := by decide +kernel
theorem dX2_rootOf_11 : decode cX2_rootOf 11 = .ok (.iconst 1, 1) := by decide +kernel
theorem dX2_rootOf_12 : decode cX2_rootOf 12 = .ok (.iload_n 1, 1) := by decide +kernel
theorem dX2_rootOf_13 : decode cX2_rootOf 13 = .ok (.iadd, 1) := by decide +kernel
theorem dX2_rootOf_14 : decode cX2_rootOf 14 = .ok (.invokevirtual 92, 3) := by decide +kernel
theorem dX2_rootOf_17 : decode cX2_rootOf 17 = .ok (.goto 4, 3) := by decide +kernel
theorem dX2_rootOf_20 : decode cX2_rootOf 20 = .ok (.iconst (-1), 1) := by decide +kernel
theorem dX2_rootOf_21 : decode cX2_rootOf 21 = .ok (.ireturn, 1) := by decide +kernel
set_option maxRecDepth 20000 in
theorem ggX2_fence_X1_keepAll : GoodIn wsX2_fence wsX1_keepAll := goodIn_r _ [6, 7, 8, 9, 10, 5, 11, 12, 13, 14, 15, 16, 17, 18, 19, 20, 21, 22, 23, 31, 32, 33, 34, 35] (by decide +kernel) (by decide +kernel)
set_option maxRecDepth 20000 in
theorem gX2_fence_X1_keepAll : GoodIn wsX2_fence (wsV RX2 98 RX1 yX1_keepAll wsX1_keepAll) := goodIn_app (goodIn_of _ (by decide +kernel)) ggX2_fence_X1_keepAll
theorem dX2_fence_0 : decode cX2_fence 0 = .ok (.aload_n 0, 1) := by decide +kernel
theorem dX2_fence_1 : decode cX2_fence 1 = .ok (.getfield 10, 3) := by decide +kernel
theorem dX2_fence_4 : decode cX2_fence 4 = .ok (.invokevirtual 98, 3) := by decide +kernel
theorem dX2_fence_7 : decode cX2_fence 7 = .ok (.ireturn, 1) := by decide +kernel
set_option maxRecDepth 20000 in
theorem ggX2_crash_X1_keepSome : GoodIn wsX2_crash wsX1_keepSome := goodIn_r _ [8, 9, 10, 11, 12, 13, 14, 7, 15, 16, 17, 18, 19, 20, 21, 170, 171, 172, 173, 174] (by decide +kernel) (by decide +kernel)
set_option maxRecDepth 20000 in
theorem gX2_crash_X1_keepSome : GoodIn wsX2_crash (wsV RX2 102 RX1 yX1_keepSome wsX1_keepSome) := goodIn_app (goodIn_of _ (by decide +kernel)) ggX2_crash_X1_keepSome
set_option maxRecDepth 20000 in
theorem ggX2_crash_X2_recover : GoodIn wsX2_crash wsX2_recover := goodIn_r _ [26, 27, 3, 28, 29, 30, 31, 32, 33, 34, 35, 36, 37, 38, 39, 40, 41, 42, 43, 25, 44, 1, 45, 46, 47, 7, 48, 10, 49, 50, 51, 52, 53, 54, 55, 56, 57, 58, 59, 60, 61, 62, 63, 64, 65, 66, 67, 68, 69, 70, 71, 72, 73, 74, 75, 76, 77, 78, 79, 80, 81, 82, 83, 84, 85, 86, 87, 88, 89, 90, 91, 92, 93, 94, 95, 96, 97, 98, 99, 100, 101, 102, 103, 104, 105, 106, 107, 108, 109, 110, 111, 112, 113, 114, 115, 116, 117, 118, 119, 120, 121, 122, 123, 124, 125, 126, 127, 128, 129, 130, 131, 132, 133, 134, 135, 136, 137, 138, 139, 140, 141, 142, 143, 144, 145, 146, 147, 148, 149, 150, 151, 152, 153, 154, 155, 21, 9, 16, 156, 157, 158, 159, 160, 161, 162, 163, 164, 165, 166, 167, 168, 169, 175, 176, 177, 178, 170, 171, 172, 173, 174] (by decide +kernel) (by decide +kernel)
set_option maxRecDepth 20000 in
theorem gX2_crash_X2_recover : GoodIn wsX2_crash (wsV RX2 105 RX2 yX2_recover wsX2_recover) := goodIn_app (goodIn_of _ (by decide +kernel)) ggX2_crash_X2_recover
theorem dX2_crash_0 : decode cX2_crash 0 = .ok (.aload_n 0, 1) := by decide +kernel
theorem dX2_crash_1 : decode cX2_crash 1 = .ok (.getfield 10, 3) := by decide +kernel
theorem dX2_crash_4 : decode cX2_crash 4 = .ok (.iload_n 1, 1) := by decide +kernel
theorem dX2_crash_5 : decode cX2_crash 5 = .ok (.invokevirtual 102, 3) := by decide +kernel
theorem dX2_crash_8 : decode cX2_crash 8 = .ok (.aload_n 0, 1) := by decide +kernel
theorem dX2_crash_9 : decode cX2_crash 9 = .ok (.dup, 1) := by decide +kernel
theorem dX2_crash_10 : decode cX2_crash 10 = .ok (.getfield 34, 3) := by decide +kernel
theorem dX2_crash_13 : decode cX2_crash 13 = .ok (.iconst 1, 1) := by decide +kernel
theorem dX2_crash_14 : decode cX2_crash 14 = .ok (.iadd, 1) := by decide +kernel
theorem dX2_crash_15 : decode cX2_crash 15 = .ok (.putfield 34, 3) := by decide +kernel
theorem dX2_crash_18 : decode cX2_crash 18 = .ok (.aload_n 0, 1) := by decide +kernel
theorem dX2_crash_19 : decode cX2_crash 19 = .ok (.invokevirtual 105, 3) := by decide +kernel
theorem dX2_crash_22 : decode cX2_crash 22 = .ok (.aload_n 0, 1) := by decide +kernel
theorem dX2_crash_23 : decode cX2_crash 23 = .ok (.getfield 27, 3) := by decide +kernel
theorem dX2_crash_26 : decode cX2_crash 26 = .ok (.ireturn, 1) := by decide +kernel
set_option maxRecDepth 20000 in
theorem ggX2_collect_X2_markReached : GoodIn wsX2_collect wsX2_markReached := goodIn_r _ [6, 1, 7, 8, 9, 10, 11, 12, 13, 14, 15, 16, 17, 18, 19, 20, 21, 5, 22, 23, 24, 25, 26, 27, 28, 29, 30, 31, 32, 33, 34, 35, 36, 37, 38, 39, 40, 41, 42, 43, 44, 45, 46, 47, 48, 49, 50, 51, 52, 53, 54, 55, 56, 57, 58, 59, 60, 61, 62, 63, 64, 65, 66, 67, 68, 69, 70, 71, 72, 73, 74, 75, 76, 77, 78, 79, 80, 81, 82, 83, 84, 117, 118, 119, 120, 121, 122, 123, 124, 125, 126, 127, 128, 129, 130, 131, 132] (by decide +kernel) (by decide +kernel)
set_option maxRecDepth 20000 in
theorem gX2_collect_X2_markReached : GoodIn wsX2_collect (wsV RX2 108 RX2 yX2_markReached wsX2_markReached) := goodIn_app (goodIn_of _ (by decide +kernel)) ggX2_collect_X2_markReached
set_option maxRecDepth 20000 in
theorem ggX2_collect_X2_listLive : GoodIn wsX2_collect wsX2_listLive := goodIn_r _ [88, 1, 8, 89, 90, 91, 12, 92, 49, 50, 51, 52, 53, 54, 93, 94, 95, 96, 58, 59, 60, 61, 62, 117, 118, 119, 120, 121, 122, 123, 124, 125, 126, 127] (by decide +kernel) (by decide +kernel)
set_option maxRecDepth 20000 in
theorem gX2_collect_X2_listLive : GoodIn wsX2_collect (wsV RX2 111 RX2 yX2_listLive wsX2_listLive) := goodIn_app (goodIn_of _ (by decide +kernel)) ggX2_collect_X2_listLive
set_option maxRecDepth 20000 in
theorem ggX2_collect_X2_rowAt : GoodIn wsX2_collect wsX2_rowAt := goodIn_r _ [74, 8, 117, 118, 119, 120, 121, 122, 123] (by decide +kernel) (by decide +kernel)
set_option maxRecDepth 20000 in
theorem gX2_collect_X2_rowAt : GoodIn wsX2_collect (wsV RX2 114 RX2 yX2_rowAt wsX2_rowAt) := goodIn_app (goodIn_of _ (by decide +kernel)) ggX2_collect_X2_rowAt
set_option maxRecDepth 20000 in
theorem ggX2_collect_X0_isMarked : GoodIn wsX2_collect wsX0_isMarked := goodIn_r _ [66, 14, 36, 37, 12, 38, 45, 46, 47, 48, 49, 50, 51, 52, 53, 54, 55, 56, 57, 39, 5, 40, 58, 59, 60, 61, 62, 124, 125, 126, 127] (by decide +kernel) (by decide +kernel)
set_option maxRecDepth 20000 in
theorem gX2_collect_X0_isMarked : GoodIn wsX2_collect (wsV RX2 117 RX0 yX0_isMarked wsX0_isMarked) := goodIn_app (goodIn_of _ (by decide +kernel)) ggX2_collect_X0_isMarked
set_option maxRecDepth 20000 in
theorem ggX2_collect_X2_release : GoodIn wsX2_collect wsX2_release := goodIn_r _ [101, 1, 23, 102, 103, 104, 12, 105, 62, 53, 54, 36, 37, 38, 45, 46, 47, 48, 49, 50, 51, 52, 55, 56, 57, 39, 5, 40, 58, 59, 60, 61, 106, 107, 108, 109, 110, 111, 112, 27, 113, 29, 114, 115, 116, 30, 31, 117, 118, 119, 120, 121, 122, 123, 124, 125, 126, 127, 128, 129, 130, 131, 132] (by decide +kernel) (by decide +kernel)
set_option maxRecDepth 20000 in
theorem gX2_collect_X2_release : GoodIn wsX2_collect (wsV RX2 76 RX2 yX2_release wsX2_release) := goodIn_app (goodIn_of _ (by decide +kernel)) ggX2_collect_X2_release
theorem dX2_collect_0 : decode cX2_collect 0 = .ok (.aload_n 0, 1) := by decide +kernel
theorem dX2_collect_1 : decode cX2_collect 1 = .ok (.invokevirtual 108, 3) := by decide +kernel
theorem dX2_collect_4 : decode cX2_collect 4 = .ok (.aload_n 0, 1) := by decide +kernel
theorem dX2_collect_5 : decode cX2_collect 5 = .ok (.invokevirtual 111, 3) := by decide +kernel
theorem dX2_collect_8 : decode cX2_collect 8 = .ok (.istore_n 1, 1) := by decide +kernel
theorem dX2_collect_9 : decode cX2_collect 9 = .ok (.iconst 0, 1) := by decide +kernel
theorem dX2_collect_10 : decode cX2_collect 10 = .ok (.istore_n 2, 1) := by decide +kernel
theorem dX2_collect_11 : decode cX2_collect 11 = .ok (.iconst 0, 1) := by decide +kernel
theorem dX2_collect_12 : decode cX2_collect 12 = .ok (.istore_n 3, 1) := by decide +kernel
theorem dX2_collect_13 : decode cX2_collect 13 = .ok (.iload_n 3, 1) := by decide +kernel
theorem dX2_collect_14 : decode cX2_collect 14 = .ok (.iload_n 1, 1) := by decide +kernel
theorem dX2_collect_15 : decode cX2_collect 15 = .ok (.if_icmp .ge 37, 3) := by decide +kernel
theorem dX2_collect_18 : decode cX2_collect 18 = .ok (.aload_n 0, 1) := by decide +kernel
theorem dX2_collect_19 : decode cX2_collect 19 = .ok (.iload_n 3, 1) := by decide +kernel
theorem dX2_collect_20 : decode cX2_collect 20 = .ok (.invokevirtual 114, 3) := by decide +kernel
theorem dX2_collect_23 : decode cX2_collect 23 = .ok (.istore 4, 2) := by decide +kernel
theorem dX2_collect_25 : decode cX2_collect 25 = .ok (.aload_n 0, 1) := by decide +kernel
theorem dX2_collect_26 : decode cX2_collect 26 = .ok (.getfield 19, 3) := by decide +kernel
theorem dX2_collect_29 : decode cX2_collect 29 = .ok (.iload 4, 2) := by decide +kernel
theorem dX2_collect_31 : decode cX2_collect 31 = .ok (.invokevirtual 117, 3) := by decide +kernel
theorem dX2_collect_34 : decode cX2_collect 34 = .ok (.ifCond .ne 12, 3) := by decide +kernel
theorem dX2_collect_37 : decode cX2_collect 37 = .ok (.aload_n 0, 1) := by decide +kernel
theorem dX2_collect_38 : decode cX2_collect 38 = .ok (.iload 4, 2) := by decide +kernel
theorem dX2_collect_40 : decode cX2_collect 40 = .ok (.invokevirtual 76, 3) := by decide +kernel
theorem dX2_collect_43 : decode cX2_collect 43 = .ok (.iinc 2 1, 3) := by decide +kernel
theorem dX2_collect_46 : decode cX2_collect 46 = .ok (.iinc 3 1, 3) := by decide +kernel
theorem dX2_collect_49 : decode cX2_collect 49 = .ok (.goto (-36), 3) := by decide +kernel
theorem dX2_collect_52 : decode cX2_collect 52 = .ok (.iload_n 2, 1) := by decide +kernel
theorem dX2_collect_53 : decode cX2_collect 53 = .ok (.ireturn, 1) := by decide +kernel
set_option maxRecDepth 20000 in
theorem ggX2_word_X1_keptAt : GoodIn wsX2_word wsX1_keptAt := goodIn_r _ [6, 7, 8, 9, 10, 23, 24, 25, 26, 27] (by decide +kernel) (by decide +kernel)
set_option maxRecDepth 20000 in
theorem gX2_word_X1_keptAt : GoodIn wsX2_word (wsV RX2 120 RX1 yX1_keptAt wsX1_keptAt) := goodIn_app (goodIn_of _ (by decide +kernel)) ggX2_word_X1_keptAt
set_option maxRecDepth 20000 in
theorem ggX2_word_X1_at : GoodIn wsX2_word wsX1_at := goodIn_r _ [14, 15, 8, 9, 10, 23, 24, 25, 26, 27] (by decide +kernel) (by decide +kernel)
set_option maxRecDepth 20000 in
theorem gX2_word_X1_at : GoodIn wsX2_word (wsV RX2 92 RX1 yX1_at wsX1_at) := goodIn_app (goodIn_of _ (by decide +kernel)) ggX2_word_X1_at
theorem dX2_word_0 : decode cX2_word 0 = .ok (.iload_n 2, 1) := by decide +kernel
theorem dX2_word_1 : decode cX2_word 1 = .ok (.ifCond .eq 14, 3) := by decide +kernel
theorem dX2_word_4 : decode cX2_word 4 = .ok (.aload_n 0, 1) := by decide +kernel
theorem dX2_word_5 : decode cX2_word 5 = .ok (.getfield 10, 3) := by decide +kernel
theorem dX2_word_8 : decode cX2_word 8 = .ok (.iload_n 1, 1) := by decide +kernel
theorem dX2_word_9 : decode cX2_word 9 = .ok (.invokevirtual 120, 3) := by decide +kernel
theorem dX2_word_12 : decode cX2_word 12 = .ok (.goto 11, 3) := by decide +kernel
theorem dX2_word_15 : decode cX2_word 15 = .ok (.aload_n 0, 1) := by decide +kernel
theorem dX2_word_16 : decode cX2_word 16 = .ok (.getfield 10, 3) := by decide +kernel
theorem dX2_word_19 : decode cX2_word 19 = .ok (.iload_n 1, 1) := by decide +kernel
theorem dX2_word_20 : decode cX2_word 20 = .ok (.invokevirtual 92, 3) := by decide +kernel
theorem dX2_word_23 : decode cX2_word 23 = .ok (.ireturn, 1) := by decide +kernel
set_option maxRecDepth 20000 in
theorem ggX2_scribble_X2_settle : GoodIn wsX2_scribble wsX2_settle := goodIn_r _ [6, 7, 69, 70, 71, 72, 73, 74, 75] (by decide +kernel) (by decide +kernel)
set_option maxRecDepth 20000 in
theorem gX2_scribble_X2_settle : GoodIn wsX2_scribble (wsV RX2 86 RX2 yX2_settle wsX2_settle) := goodIn_app (goodIn_of _ (by decide +kernel)) ggX2_scribble_X2_settle
set_option maxRecDepth 20000 in
theorem ggX2_scribble_X2_isOfBlock : GoodIn wsX2_scribble wsX2_isOfBlock := goodIn_r _ [11, 12, 13, 14, 15, 16, 17, 18, 19, 20, 21, 22, 23, 5, 24, 25, 26, 27, 28, 29, 30, 31, 32, 33, 34, 35, 36, 37, 38, 39, 40, 41, 42, 43, 44, 45, 46, 47, 48, 49, 50, 1, 51, 52, 53, 54, 55, 56, 57, 58, 59, 60, 61, 69, 70, 71, 72, 73, 74, 75, 76, 77, 78, 79, 80, 81, 82, 83, 84] (by decide +kernel) (by decide +kernel)
set_option maxRecDepth 20000 in
theorem gX2_scribble_X2_isOfBlock : GoodIn wsX2_scribble (wsV RX2 123 RX2 yX2_isOfBlock wsX2_isOfBlock) := goodIn_app (goodIn_of _ (by decide +kernel)) ggX2_scribble_X2_isOfBlock
set_option maxRecDepth 20000 in
theorem ggX2_scribble_X1_write : GoodIn wsX2_scribble wsX1_write := goodIn_r _ [65, 56, 66, 67, 68, 57, 5, 58, 80, 81, 82, 83, 84] (by decide +kernel) (by decide +kernel)
set_option maxRecDepth 20000 in
theorem gX2_scribble_X1_write : GoodIn wsX2_scribble (wsV RX2 60 RX1 yX1_write wsX1_write) := goodIn_app (goodIn_of _ (by decide +kernel)) ggX2_scribble_X1_write
theorem dX2_scribble_0 : decode cX2_scribble 0 = .ok (.iload_n 1, 1) := by decide +kernel
theorem dX2_scribble_1 : decode cX2_scribble 1 = .ok (.bipush 16, 2) := by decide +kernel
theorem dX2_scribble_3 : decode cX2_scribble 3 = .ok (.if_icmp .lt 10, 3) := by decide +kernel
theorem dX2_scribble_6 : decode cX2_scribble 6 = .ok (.iload_n 1, 1) := by decide +kernel
theorem dX2_scribble_7 : decode cX2_scribble 7 = .ok (.sipush 4096, 3) := by decide +kernel
theorem dX2_scribble_10 : decode cX2_scribble 10 = .ok (.if_icmp .lt 9, 3) := by decide +kernel
theorem dX2_scribble_13 : decode cX2_scribble 13 = .ok (.aload_n 0, 1) := by decide +kernel
theorem dX2_scribble_14 : decode cX2_scribble 14 = .ok (.iconst 3, 1) := by decide +kernel
theorem dX2_scribble_15 : decode cX2_scribble 15 = .ok (.invokevirtual 86, 3) := by decide +kernel
theorem dX2_scribble_18 : decode cX2_scribble 18 = .ok (.ireturn, 1) := by decide +kernel
theorem dX2_scribble_19 : decode cX2_scribble 19 = .ok (.aload_n 0, 1) := by decide +kernel
theorem dX2_scribble_20 : decode cX2_scribble 20 = .ok (.iload_n 1, 1) := by decide +kernel
theorem dX2_scribble_21 : decode cX2_scribble 21 = .ok (.invokevirtual 123, 3) := by decide +kernel
theorem dX2_scribble_24 : decode cX2_scribble 24 = .ok (.ifCond .eq 9, 3) := by decide +kernel
theorem dX2_scribble_27 : decode cX2_scribble 27 = .ok (.aload_n 0, 1) := by decide +kernel
theorem dX2_scribble_28 : decode cX2_scribble 28 = .ok (.iconst 2, 1) := by decide +kernel
theorem dX2_scribble_29 : decode cX2_scribble 29 = .ok (.invokevirtual 86, 3) := by decide +kernel
theorem dX2_scribble_32 : decode cX2_scribble 32 = .ok (.ireturn, 1) := by decide +kernel
theorem dX2_scribble_33 : decode cX2_scribble 33 = .ok (.aload_n 0, 1) := by decide +kernel
theorem dX2_scribble_34 : decode cX2_scribble 34 = .ok (.getfield 10, 3) := by decide +kernel
theorem dX2_scribble_37 : decode cX2_scribble 37 = .ok (.iload_n 1, 1) := by decide +kernel
theorem dX2_scribble_38 : decode cX2_scribble 38 = .ok (.iload_n 2, 1) := by decide +kernel
theorem dX2_scribble_39 : decode cX2_scribble 39 = .ok (.invokevirtual 60, 3) := by decide +kernel
theorem dX2_scribble_42 : decode cX2_scribble 42 = .ok (.aload_n 0, 1) := by decide +kernel
theorem dX2_scribble_43 : decode cX2_scribble 43 = .ok (.iconst 0, 1) := by decide +kernel
theorem dX2_scribble_44 : decode cX2_scribble 44 = .ok (.invokevirtual 86, 3) := by decide +kernel
theorem dX2_scribble_47 : decode cX2_scribble 47 = .ok (.ireturn, 1) := by decide +kernel
set_option maxRecDepth 20000 in
theorem ggX2_block_X0_isLive : GoodIn wsX2_block wsX0_isLive := goodIn_r _ [6, 7, 8, 5, 9, 10, 11, 12, 13, 14, 15, 16, 17, 18, 19, 20, 21, 22, 23, 24, 25, 26, 27, 94, 95, 96, 97] (by decide +kernel) (by decide +kernel)
set_option maxRecDepth 20000 in
theorem gX2_block_X0_isLive : GoodIn wsX2_block (wsV RX2 66 RX0 yX0_isLive wsX0_isLive) := goodIn_app (goodIn_of _ (by decide +kernel)) ggX2_block_X0_isLive
set_option maxRecDepth 20000 in
theorem ggX2_block_X2_sizeOf : GoodIn wsX2_block wsX2_sizeOf := goodIn_r _ [32, 33, 34, 35, 36, 37, 38, 39, 40, 31, 41, 42, 43, 44, 87, 88, 89, 90, 91, 92, 93, 98, 99, 100, 101, 102] (by decide +kernel) (by decide +kernel)
set_option maxRecDepth 20000 in
theorem gX2_block_X2_sizeOf : GoodIn wsX2_block (wsV RX2 126 RX2 yX2_sizeOf wsX2_sizeOf) := goodIn_app (goodIn_of _ (by decide +kernel)) ggX2_block_X2_sizeOf
set_option maxRecDepth 20000 in
theorem ggX2_block_X2_refsOf : GoodIn wsX2_block wsX2_refsOf := goodIn_r _ [48, 33, 34, 35, 36, 37, 38, 39, 40, 31, 41, 49, 50, 51, 87, 88, 89, 90, 91, 92, 93, 98, 99, 100, 101, 102] (by decide +kernel) (by decide +kernel)
set_option maxRecDepth 20000 in
theorem gX2_block_X2_refsOf : GoodIn wsX2_block (wsV RX2 83 RX2 yX2_refsOf wsX2_refsOf) := goodIn_app (goodIn_of _ (by decide +kernel)) ggX2_block_X2_refsOf
set_option maxRecDepth 20000 in
theorem ggX2_block_X2_classFor : GoodIn wsX2_block wsX2_classFor := goodIn_r _ [54, 55] (by decide +kernel) (by decide +kernel)
set_option maxRecDepth 20000 in
theorem gX2_block_X2_classFor : GoodIn wsX2_block (va_wsS RX2 129 yX2_classFor wsX2_classFor) := goodIn_app (goodIn_of _ (by decide +kernel)) ggX2_block_X2_classFor
set_option maxRecDepth 20000 in
theorem ggX2_block_X2_orderFor : GoodIn wsX2_block wsX2_orderFor := goodIn_r _ [58, 52, 53, 31, 54, 55] (by decide +kernel) (by decide +kernel)
set_option maxRecDepth 20000 in
theorem gX2_block_X2_orderFor : GoodIn wsX2_block (va_wsS RX2 132 yX2_orderFor wsX2_orderFor) := goodIn_app (goodIn_of _ (by decide +kernel)) ggX2_block_X2_orderFor
set_option maxRecDepth 20000 in
theorem ggX2_block_X2_leadsTo : GoodIn wsX2_block wsX2_leadsTo := goodIn_r _ [62, 63, 64, 65, 31, 66, 33, 34, 35, 36, 37, 38, 39, 40, 41, 67, 68, 69, 70, 1, 71, 72, 73, 74, 5, 75, 14, 15, 16, 17, 18, 19, 76, 77, 78, 79, 23, 24, 25, 26, 27, 80, 81, 82, 83, 84, 85, 86, 45, 46, 47, 48, 49, 50, 51, 87, 88, 89, 90, 91, 92, 93, 98, 99, 100, 101, 102, 94, 95, 96, 97] (by decide +kernel) (by decide +kernel)
set_option maxRecDepth 20000 in
theorem gX2_block_X2_leadsTo : GoodIn wsX2_block (wsV RX2 70 RX2 yX2_leadsTo wsX2_leadsTo) := goodIn_app (goodIn_of _ (by decide +kernel)) ggX2_block_X2_leadsTo
theorem dX2_block_0 : decode cX2_block 0 = .ok (.aload_n 0, 1) := by decide +kernel
theorem dX2_block_1 : decode cX2_block 1 = .ok (.getfield 19, 3) := by decide +kernel
theorem dX2_block_4 : decode cX2_block 4 = .ok (.iload_n 1, 1) := by decide +kernel
theorem dX2_block_5 : decode cX2_block 5 = .ok (.invokevirtual 66, 3) := by decide +kernel
theorem dX2_block_8 : decode cX2_block 8 = .ok (.ifCond .ne 5, 3) := by decide +kernel
theorem dX2_block_11 : decode cX2_block 11 = .ok (.iconst (-1), 1) := by decide +kernel
theorem dX2_block_12 : decode cX2_block 12 = .ok (.ireturn, 1) := by decide +kernel
theorem dX2_block_13 : decode cX2_block 13 = .ok (.iload_n 2, 1) := by decide +kernel
theorem dX2_block_14 : decode cX2_block 14 = .ok (.tableswitch 70 0 4 #[34, 40, 46, 55, 64], 34) := by decide +kernel
theorem dX2_block_48 : decode cX2_block 48 = .ok (.aload_n 0, 1) := by decide +kernel
theorem dX2_block_49 : decode cX2_block 49 = .ok (.iload_n 1, 1) := by decide +kernel
theorem dX2_block_50 : decode cX2_block 50 = .ok (.invokevirtual 126, 3) := by decide +kernel
theorem dX2_block_53 : decode cX2_block 53 = .ok (.ireturn, 1) := by decide +kernel
theorem dX2_block_54 : decode cX2_block 54 = .ok (.aload_n 0, 1) := by decide +kernel
theorem dX2_block_55 : decode cX2_block 55 = .ok (.iload_n 1, 1) := by decide +kernel
theorem dX2_block_56 : decode cX2_block 56 = .ok (.invokevirtual 83, 3) := by decide +kernel
theorem dX2_block_59 : decode cX2_block 59 = .ok (.ireturn, 1) := by decide +kernel
theorem dX2_block_60 : decode cX2_block 60 = .ok (.aload_n 0, 1) := by decide +kernel
theorem dX2_block_61 : decode cX2_block 61 = .ok (.iload_n 1, 1) := by decide +kernel
theorem dX2_block_62 : decode cX2_block 62 = .ok (.invokevirtual 126, 3) := by decide +kernel
theorem dX2_block_65 : decode cX2_block 65 = .ok (.invokestatic 129, 3) := by decide +kernel
theorem dX2_block_68 : decode cX2_block 68 = .ok (.ireturn, 1) := by decide +kernel
theorem dX2_block_69 : decode cX2_block 69 = .ok (.aload_n 0, 1) := by decide +kernel
theorem dX2_block_70 : decode cX2_block 70 = .ok (.iload_n 1, 1) := by decide +kernel
theorem dX2_block_71 : decode cX2_block 71 = .ok (.invokevirtual 126, 3) := by decide +kernel
theorem dX2_block_74 : decode cX2_block 74 = .ok (.invokestatic 132, 3) := by decide +kernel
theorem dX2_block_77 : decode cX2_block 77 = .ok (.ireturn, 1) := by decide +kernel
theorem dX2_block_78 : decode cX2_block 78 = .ok (.aload_n 0, 1) := by decide +kernel
theorem dX2_block_79 : decode cX2_block 79 = .ok (.iload_n 1, 1) := by decide +kernel
theorem dX2_block_80 : decode cX2_block 80 = .ok (.invokevirtual 70, 3) := by decide +kernel
theorem dX2_block_83 : decode cX2_block 83 = .ok (.ireturn, 1) := by decide +kernel
theorem dX2_block_84 : decode cX2_block 84 = .ok (.iconst (-1), 1) := by decide +kernel
theorem dX2_block_85 : decode cX2_block 85 = .ok (.ireturn, 1) := by decide +kernel
set_option maxRecDepth 20000 in
theorem ggX2_live_X2_listLive : GoodIn wsX2_live wsX2_listLive := goodIn_r _ [5, 6, 7, 8, 9, 10, 11, 12, 13, 14, 15, 16, 17, 18, 19, 20, 21, 22, 23, 24, 25, 26, 27, 32, 33, 34, 35, 36, 37, 38, 39, 40, 41, 42] (by decide +kernel) (by decide +kernel)
set_option maxRecDepth 20000 in
theorem gX2_live_X2_listLive : GoodIn wsX2_live (wsV RX2 111 RX2 yX2_listLive wsX2_listLive) := goodIn_app (goodIn_of _ (by decide +kernel)) ggX2_live_X2_listLive
set_option maxRecDepth 20000 in
theorem ggX2_live_X2_rowAt : GoodIn wsX2_live wsX2_rowAt := goodIn_r _ [31, 7, 32, 33, 34, 35, 36, 37, 38] (by decide +kernel) (by decide +kernel)
set_option maxRecDepth 20000 in
theorem gX2_live_X2_rowAt : GoodIn wsX2_live (wsV RX2 114 RX2 yX2_rowAt wsX2_rowAt) := goodIn_app (goodIn_of _ (by decide +kernel)) ggX2_live_X2_rowAt
theorem dX2_live_0 : decode cX2_live 0 = .ok (.aload_n 0, 1) := by decide +kernel
theorem dX2_live_1 : decode cX2_live 1 = .ok (.invokevirtual 111, 3) := by decide +kernel
theorem dX2_live_4 : decode cX2_live 4 = .ok (.istore_n 2, 1) := by decide +kernel
theorem dX2_live_5 : decode cX2_live 5 = .ok (.iload_n 1, 1) := by decide +kernel
theorem dX2_live_6 : decode cX2_live 6 = .ok (.ifCond .lt 16, 3) := by decide +kernel
theorem dX2_live_9 : decode cX2_live 9 = .ok (.iload_n 1, 1) := by decide +kernel
theorem dX2_live_10 : decode cX2_live 10 = .ok (.iload_n 2, 1) := by decide +kernel
theorem dX2_live_11 : decode cX2_live 11 = .ok (.if_icmp .ge 11, 3) := by decide +kernel
theorem dX2_live_14 : decode cX2_live 14 = .ok (.aload_n 0, 1) := by decide +kernel
theorem dX2_live_15 : decode cX2_live 15 = .ok (.iload_n 1, 1) := by decide +kernel
theorem dX2_live_16 : decode cX2_live 16 = .ok (.invokevirtual 114, 3) := by decide +kernel
theorem dX2_live_19 : decode cX2_live 19 = .ok (.goto 4, 3) := by decide +kernel
theorem dX2_live_22 : decode cX2_live 22 = .ok (.iconst (-1), 1) := by decide +kernel
theorem dX2_live_23 : decode cX2_live 23 = .ok (.ireturn, 1) := by decide +kernel
set_option maxRecDepth 20000 in
theorem ggX2_page_X2_isPage : GoodIn wsX2_page wsX2_isPage := goodIn_r _ [5] (by decide +kernel) (by decide +kernel)
set_option maxRecDepth 20000 in
theorem gX2_page_X2_isPage : GoodIn wsX2_page (va_wsS RX2 135 yX2_isPage wsX2_isPage) := goodIn_app (goodIn_of _ (by decide +kernel)) ggX2_page_X2_isPage
set_option maxRecDepth 20000 in
theorem ggX2_page_X0_kindOf : GoodIn wsX2_page wsX0_kindOf := goodIn_r _ [10, 11, 59, 60, 61, 62] (by decide +kernel) (by decide +kernel)
set_option maxRecDepth 20000 in
theorem gX2_page_X0_kindOf : GoodIn wsX2_page (wsV RX2 138 RX0 yX0_kindOf wsX0_kindOf) := goodIn_app (goodIn_of _ (by decide +kernel)) ggX2_page_X0_kindOf
set_option maxRecDepth 20000 in
theorem ggX2_page_X0_formOf : GoodIn wsX2_page wsX0_formOf := goodIn_r _ [15, 11, 16, 3, 4, 5, 17, 18, 19, 9, 20, 21, 22, 23, 24, 25, 26, 27, 28, 29, 30, 31, 32, 33, 34, 7, 8, 10, 59, 60, 61, 62] (by decide +kernel) (by decide +kernel)
set_option maxRecDepth 20000 in
theorem gX2_page_X0_formOf : GoodIn wsX2_page (wsV RX2 141 RX0 yX0_formOf wsX0_formOf) := goodIn_app (goodIn_of _ (by decide +kernel)) ggX2_page_X0_formOf
set_option maxRecDepth 20000 in
theorem ggX2_page_X0_blocksOn : GoodIn wsX2_page wsX0_blocksOn := goodIn_r _ [38, 39, 3, 4, 5, 40, 41, 42, 43, 44, 45, 46, 59, 60, 61, 62] (by decide +kernel) (by decide +kernel)
set_option maxRecDepth 20000 in
theorem gX2_page_X0_blocksOn : GoodIn wsX2_page (wsV RX2 144 RX0 yX0_blocksOn wsX0_blocksOn) := goodIn_app (goodIn_of _ (by decide +kernel)) ggX2_page_X0_blocksOn
set_option maxRecDepth 20000 in
theorem ggX2_page_X0_firstOf : GoodIn wsX2_page wsX0_firstOf := goodIn_r _ [50, 34, 7, 8, 9, 10, 11, 51, 13, 14, 15, 16, 3, 4, 5, 17, 18, 19, 20, 21, 22, 23, 24, 25, 26, 27, 28, 29, 30, 31, 32, 33, 59, 60, 61, 62] (by decide +kernel) (by decide +kernel)
set_option maxRecDepth 20000 in
theorem gX2_page_X0_firstOf : GoodIn wsX2_page (wsV RX2 147 RX0 yX0_firstOf wsX0_firstOf) := goodIn_app (goodIn_of _ (by decide +kernel)) ggX2_page_X0_firstOf
theorem dX2_page_0 : decode cX2_page 0 = .ok (.iload_n 1, 1) := by decide +kernel
theorem dX2_page_1 : decode cX2_page 1 = .ok (.invokestatic 135, 3) := by decide +kernel
theorem dX2_page_4 : decode cX2_page 4 = .ok (.ifCond .ne 5, 3) := by decide +kernel
theorem dX2_page_7 : decode cX2_page 7 = .ok (.iconst (-1), 1) := by decide +kernel
theorem dX2_page_8 : decode cX2_page 8 = .ok (.ireturn, 1) := by decide +kernel
theorem dX2_page_9 : decode cX2_page 9 = .ok (.iload_n 2, 1) := by decide +kernel
theorem dX2_page_10 : decode cX2_page 10 = .ok (.tableswitch 66 0 3 #[30, 39, 48, 57], 30) := by decide +kernel
theorem dX2_page_40 : decode cX2_page 40 = .ok (.aload_n 0, 1) := by decide +kernel
theorem dX2_page_41 : decode cX2_page 41 = .ok (.getfield 19, 3) := by decide +kernel
theorem dX2_page_44 : decode cX2_page 44 = .ok (.iload_n 1, 1) := by decide +kernel
theorem dX2_page_45 : decode cX2_page 45 = .ok (.invokevirtual 138, 3) := by decide +kernel
theorem dX2_page_48 : decode cX2_page 48 = .ok (.ireturn, 1) := by decide +kernel
theorem dX2_page_49 : decode cX2_page 49 = .ok (.aload_n 0, 1) := by decide +kernel
theorem dX2_page_50 : decode cX2_page 50 = .ok (.getfield 19, 3) := by decide +kernel
theorem dX2_page_53 : decode cX2_page 53 = .ok (.iload_n 1, 1) := by decide +kernel
theorem dX2_page_54 : decode cX2_page 54 = .ok (.invokevirtual 141, 3) := by decide +kernel
theorem dX2_page_57 : decode cX2_page 57 = .ok (.ireturn, 1) := by decide +kernel
theorem dX2_page_58 : decode cX2_page 58 = .ok (.aload_n 0, 1) := by decide +kernel
theorem dX2_page_59 : decode cX2_page 59 = .ok (.getfield 19, 3) := by decide +kernel
theorem dX2_page_62 : decode cX2_page 62 = .ok (.iload_n 1, 1) := by decide +kernel
theorem dX2_page_63 : decode cX2_page 63 = .ok (.invokevirtual 144, 3) := by decide +kernel
theorem dX2_page_66 : decode cX2_page 66 = .ok (.ireturn, 1) := by decide +kernel
theorem dX2_page_67 : decode cX2_page 67 = .ok (.aload_n 0, 1) := by decide +kernel
theorem dX2_page_68 : decode cX2_page 68 = .ok (.getfield 19, 3) := by decide +kernel
theorem dX2_page_71 : decode cX2_page 71 = .ok (.iload_n 1, 1) := by decide +kernel
theorem dX2_page_72 : decode cX2_page 72 = .ok (.invokevirtual 147, 3) := by decide +kernel
theorem dX2_page_75 : decode cX2_page 75 = .ok (.ireturn, 1) := by decide +kernel
theorem dX2_page_76 : decode cX2_page 76 = .ok (.iconst (-1), 1) := by decide +kernel
theorem dX2_page_77 : decode cX2_page 77 = .ok (.ireturn, 1) := by decide +kernel
set_option maxRecDepth 20000 in
theorem ggX2_extents_X0_freeExtents : GoodIn wsX2_extents wsX0_freeExtents := goodIn_r _ [6, 7, 8, 9, 10, 11, 12, 5, 13, 14, 15, 16, 17, 18, 19, 20, 21, 22, 23, 24, 25, 33, 34, 35, 36] (by decide +kernel) (by decide +kernel)
set_option maxRecDepth 20000 in
theorem gX2_extents_X0_freeExtents : GoodIn wsX2_extents (wsV RX2 150 RX0 yX0_freeExtents wsX0_freeExtents) := goodIn_app (goodIn_of _ (by decide +kernel)) ggX2_extents_X0_freeExtents
theorem dX2_extents_0 : decode cX2_extents 0 = .ok (.aload_n 0, 1) := by decide +kernel
theorem dX2_extents_1 : decode cX2_extents 1 = .ok (.getfield 19, 3) := by decide +kernel
theorem dX2_extents_4 : decode cX2_extents 4 = .ok (.iload_n 1, 1) := by decide +kernel
theorem dX2_extents_5 : decode cX2_extents 5 = .ok (.invokevirtual 150, 3) := by decide +kernel
theorem dX2_extents_8 : decode cX2_extents 8 = .ok (.ireturn, 1) := by decide +kernel
set_option maxRecDepth 20000 in
theorem ggX2_next_X0_extentFor : GoodIn wsX2_next wsX0_extentFor := goodIn_r _ [6, 7, 8, 9, 10, 11, 12, 5, 13, 14, 15, 16, 17, 18, 19, 20, 21, 22, 23, 24, 25, 33, 34, 35, 36] (by decide +kernel) (by decide +kernel)
set_option maxRecDepth 20000 in
theorem gX2_next_X0_extentFor : GoodIn wsX2_next (wsV RX2 153 RX0 yX0_extentFor wsX0_extentFor) := goodIn_app (goodIn_of _ (by decide +kernel)) ggX2_next_X0_extentFor
theorem dX2_next_0 : decode cX2_next 0 = .ok (.aload_n 0, 1) := by decide +kernel
theorem dX2_next_1 : decode cX2_next 1 = .ok (.getfield 19, 3) := by decide +kernel
theorem dX2_next_4 : decode cX2_next 4 = .ok (.iload_n 1, 1) := by decide +kernel
theorem dX2_next_5 : decode cX2_next 5 = .ok (.invokevirtual 153, 3) := by decide +kernel
theorem dX2_next_8 : decode cX2_next 8 = .ok (.ireturn, 1) := by decide +kernel
set_option maxRecDepth 20000 in
theorem ggX2_count_X2_listLive : GoodIn wsX2_count wsX2_listLive := goodIn_r _ [9, 1, 10, 11, 12, 13, 14, 15, 16, 17, 18, 19, 20, 21, 22, 23, 24, 25, 26, 27, 28, 29, 30, 89, 90, 91, 92, 93, 94, 95, 96, 97, 98, 99] (by decide +kernel) (by decide +kernel)
set_option maxRecDepth 20000 in
theorem gX2_count_X2_listLive : GoodIn wsX2_count (wsV RX2 111 RX2 yX2_listLive wsX2_listLive) := goodIn_app (goodIn_of _ (by decide +kernel)) ggX2_count_X2_listLive
set_option maxRecDepth 20000 in
theorem ggX2_count_X0_howMany : GoodIn wsX2_count wsX0_howMany := goodIn_r _ [34, 35, 36, 37, 14, 38, 20, 96, 97, 98, 99] (by decide +kernel) (by decide +kernel)
set_option maxRecDepth 20000 in
theorem gX2_count_X0_howMany : GoodIn wsX2_count (wsV RX2 156 RX0 yX0_howMany wsX0_howMany) := goodIn_app (goodIn_of _ (by decide +kernel)) ggX2_count_X0_howMany
set_option maxRecDepth 20000 in
theorem ggX2_count_X0_emptySlots : GoodIn wsX2_count wsX0_emptySlots := goodIn_r _ [42, 43, 12, 13, 14, 15, 16, 17, 18, 19, 20, 21, 44, 45, 46, 47, 30, 48, 8, 49, 50, 51, 52, 53, 54, 55, 56, 96, 97, 98, 99] (by decide +kernel) (by decide +kernel)
set_option maxRecDepth 20000 in
theorem gX2_count_X0_emptySlots : GoodIn wsX2_count (wsV RX2 159 RX0 yX0_emptySlots wsX0_emptySlots) := goodIn_app (goodIn_of _ (by decide +kernel)) ggX2_count_X0_emptySlots
set_option maxRecDepth 20000 in
theorem ggX2_count_X1_waiting : GoodIn wsX2_count wsX1_waiting := goodIn_r _ [61, 62, 100, 101, 102, 103, 104] (by decide +kernel) (by decide +kernel)
set_option maxRecDepth 20000 in
theorem gX2_count_X1_waiting : GoodIn wsX2_count (wsV RX2 162 RX1 yX1_waiting wsX1_waiting) := goodIn_app (goodIn_of _ (by decide +kernel)) ggX2_count_X1_waiting
set_option maxRecDepth 20000 in
theorem ggX2_count_X2_liveWords : GoodIn wsX2_count wsX2_liveWords := goodIn_r _ [66, 5, 6, 7, 8, 9, 1, 10, 11, 12, 13, 14, 15, 16, 17, 18, 19, 20, 21, 22, 23, 24, 25, 26, 27, 28, 29, 30, 67, 68, 69, 70, 71, 72, 73, 74, 75, 76, 77, 78, 2, 79, 80, 81, 60, 82, 83, 84, 85, 86, 87, 88, 89, 90, 91, 92, 93, 94, 95, 96, 97, 98, 99, 100, 101, 102, 103, 104] (by decide +kernel) (by decide +kernel)
set_option maxRecDepth 20000 in
theorem gX2_count_X2_liveWords : GoodIn wsX2_count (wsV RX2 165 RX2 yX2_liveWords wsX2_liveWords) := goodIn_app (goodIn_of _ (by decide +kernel)) ggX2_count_X2_liveWords
theorem dX2_count_0 : decode cX2_count 0 = .ok (.iload_n 1, 1) := by decide +kernel
theorem dX2_count_1 : decode cX2_count 1 = .ok (.tableswitch 101 0 7 #[47, 52, 61, 70, 78, 86, 91, 96], 47) := by decide +kernel
theorem dX2_count_48 : decode cX2_count 48 = .ok (.aload_n 0, 1) := by decide +kernel
theorem dX2_count_49 : decode cX2_count 49 = .ok (.invokevirtual 111, 3) := by decide +kernel
theorem dX2_count_52 : decode cX2_count 52 = .ok (.ireturn, 1) := by decide +kernel
theorem dX2_count_53 : decode cX2_count 53 = .ok (.aload_n 0, 1) := by decide +kernel
theorem dX2_count_54 : decode cX2_count 54 = .ok (.getfield 19, 3) := by decide +kernel
theorem dX2_count_57 : decode cX2_count 57 = .ok (.iconst 0, 1) := by decide +kernel
theorem dX2_count_58 : decode cX2_count 58 = .ok (.invokevirtual 156, 3) := by decide +kernel
theorem dX2_count_61 : decode cX2_count 61 = .ok (.ireturn, 1) := by decide +kernel
theorem dX2_count_62 : decode cX2_count 62 = .ok (.aload_n 0, 1) := by decide +kernel
theorem dX2_count_63 : decode cX2_count 63 = .ok (.getfield 19, 3) := by decide +kernel
theorem dX2_count_66 : decode cX2_count 66 = .ok (.iconst 1, 1) := by decide +kernel
theorem dX2_count_67 : decode cX2_count 67 = .ok (.invokevirtual 156, 3) := by decide +kernel
theorem dX2_count_70 : decode cX2_count 70 = .ok (.ireturn, 1) := by decide +kernel
theorem dX2_count_71 : decode cX2_count 71 = .ok (.aload_n 0, 1) := by decide +kernel
theorem dX2_count_72 : decode cX2_count 72 = .ok (.getfield 19, 3) := by decide +kernel
theorem dX2_count_75 : decode cX2_count 75 = .ok (.invokevirtual 159, 3) := by decide +kernel
theorem dX2_count_78 : decode cX2_count 78 = .ok (.ireturn, 1) := by decide +kernel
theorem dX2_count_79 : decode cX2_count 79 = .ok (.aload_n 0, 1) := by decide +kernel
theorem dX2_count_80 : decode cX2_count 80 = .ok (.getfield 10, 3) := by decide +kernel
theorem dX2_count_83 : decode cX2_count 83 = .ok (.invokevirtual 162, 3) := by decide +kernel
theorem dX2_count_86 : decode cX2_count 86 = .ok (.ireturn, 1) := by decide +kernel
theorem dX2_count_87 : decode cX2_count 87 = .ok (.aload_n 0, 1) := by decide +kernel
theorem dX2_count_88 : decode cX2_count 88 = .ok (.getfield 31, 3) := by decide +kernel
theorem dX2_count_91 : decode cX2_count 91 = .ok (.ireturn, 1) := by decide +kernel
theorem dX2_count_92 : decode cX2_count 92 = .ok (.aload_n 0, 1) := by decide +kernel
theorem dX2_count_93 : decode cX2_count 93 = .ok (.invokevirtual 165, 3) := by decide +kernel
theorem dX2_count_96 : decode cX2_count 96 = .ok (.ireturn, 1) := by decide +kernel
theorem dX2_count_97 : decode cX2_count 97 = .ok (.aload_n 0, 1) := by decide +kernel
theorem dX2_count_98 : decode cX2_count 98 = .ok (.getfield 34, 3) := by decide +kernel
theorem dX2_count_101 : decode cX2_count 101 = .ok (.ireturn, 1) := by decide +kernel
theorem dX2_count_102 : decode cX2_count 102 = .ok (.iconst (-1), 1) := by decide +kernel
theorem dX2_count_103 : decode cX2_count 103 = .ok (.ireturn, 1) := by decide +kernel
set_option maxRecDepth 20000 in
theorem ggX2_head_X2_isShape : GoodIn wsX2_head wsX2_isShape := goodIn_r _ [4] (by decide +kernel) (by decide +kernel)
set_option maxRecDepth 20000 in
theorem gX2_head_X2_isShape : GoodIn wsX2_head (va_wsS RX2 40 yX2_isShape wsX2_isShape) := goodIn_app (goodIn_of _ (by decide +kernel)) ggX2_head_X2_isShape
set_option maxRecDepth 20000 in
theorem ggX2_head_X2_headOf : GoodIn wsX2_head wsX2_headOf := goodIn_r _ [7, 8, 9, 10, 11, 12] (by decide +kernel) (by decide +kernel)
set_option maxRecDepth 20000 in
theorem gX2_head_X2_headOf : GoodIn wsX2_head (va_wsS RX2 56 yX2_headOf wsX2_headOf) := goodIn_app (goodIn_of _ (by decide +kernel)) ggX2_head_X2_headOf
theorem dX2_head_0 : decode cX2_head 0 = .ok (.iload_n 1, 1) := by decide +kernel
theorem dX2_head_1 : decode cX2_head 1 = .ok (.bipush 16, 2) := by decide +kernel
theorem dX2_head_3 : decode cX2_head 3 = .ok (.if_icmp .lt 22, 3) := by decide +kernel
theorem dX2_head_6 : decode cX2_head 6 = .ok (.iload_n 1, 1) := by decide +kernel
theorem dX2_head_7 : decode cX2_head 7 = .ok (.sipush 4096, 3) := by decide +kernel
theorem dX2_head_10 : decode cX2_head 10 = .ok (.if_icmp .ge 15, 3) := by decide +kernel
theorem dX2_head_13 : decode cX2_head 13 = .ok (.iload_n 2, 1) := by decide +kernel
theorem dX2_head_14 : decode cX2_head 14 = .ok (.iload_n 3, 1) := by decide +kernel
theorem dX2_head_15 : decode cX2_head 15 = .ok (.invokestatic 40, 3) := by decide +kernel
theorem dX2_head_18 : decode cX2_head 18 = .ok (.ifCond .eq 7, 3) := by decide +kernel
theorem dX2_head_21 : decode cX2_head 21 = .ok (.iconst 1, 1) := by decide +kernel
theorem dX2_head_22 : decode cX2_head 22 = .ok (.goto 4, 3) := by decide +kernel
theorem dX2_head_25 : decode cX2_head 25 = .ok (.iconst 0, 1) := by decide +kernel
theorem dX2_head_26 : decode cX2_head 26 = .ok (.istore 4, 2) := by decide +kernel
theorem dX2_head_28 : decode cX2_head 28 = .ok (.iload 4, 2) := by decide +kernel
theorem dX2_head_30 : decode cX2_head 30 = .ok (.ifCond .eq 12, 3) := by decide +kernel
theorem dX2_head_33 : decode cX2_head 33 = .ok (.iload_n 1, 1) := by decide +kernel
theorem dX2_head_34 : decode cX2_head 34 = .ok (.iload_n 2, 1) := by decide +kernel
theorem dX2_head_35 : decode cX2_head 35 = .ok (.iload_n 3, 1) := by decide +kernel
theorem dX2_head_36 : decode cX2_head 36 = .ok (.invokestatic 56, 3) := by decide +kernel
theorem dX2_head_39 : decode cX2_head 39 = .ok (.goto 4, 3) := by decide +kernel
theorem dX2_head_42 : decode cX2_head 42 = .ok (.iconst 0, 1) := by decide +kernel
theorem dX2_head_43 : decode cX2_head 43 = .ok (.ireturn, 1) := by decide +kernel
set_option maxRecDepth 20000 in
theorem ggX2_waits_X1_lineAt : GoodIn wsX2_waits wsX1_lineAt := goodIn_r _ [6, 7, 8, 16, 17, 18, 19, 20] (by decide +kernel) (by decide +kernel)
set_option maxRecDepth 20000 in
theorem gX2_waits_X1_lineAt : GoodIn wsX2_waits (wsV RX2 168 RX1 yX1_lineAt wsX1_lineAt) := goodIn_app (goodIn_of _ (by decide +kernel)) ggX2_waits_X1_lineAt
theorem dX2_waits_0 : decode cX2_waits 0 = .ok (.aload_n 0, 1) := by decide +kernel
theorem dX2_waits_1 : decode cX2_waits 1 = .ok (.getfield 10, 3) := by decide +kernel
theorem dX2_waits_4 : decode cX2_waits 4 = .ok (.iload_n 1, 1) := by decide +kernel
theorem dX2_waits_5 : decode cX2_waits 5 = .ok (.invokevirtual 168, 3) := by decide +kernel
theorem dX2_waits_8 : decode cX2_waits 8 = .ok (.ireturn, 1) := by decide +kernel
theorem dX2_trouble_0 : decode cX2_trouble 0 = .ok (.aload_n 0, 1) := by decide +kernel
theorem dX2_trouble_1 : decode cX2_trouble 1 = .ok (.getfield 37, 3) := by decide +kernel
theorem dX2_trouble_4 : decode cX2_trouble 4 = .ok (.ireturn, 1) := by decide +kernel
theorem dX2_settle_0 : decode cX2_settle 0 = .ok (.aload_n 0, 1) := by decide +kernel
theorem dX2_settle_1 : decode cX2_settle 1 = .ok (.iload_n 1, 1) := by decide +kernel
theorem dX2_settle_2 : decode cX2_settle 2 = .ok (.putfield 37, 3) := by decide +kernel
theorem dX2_settle_5 : decode cX2_settle 5 = .ok (.iload_n 1, 1) := by decide +kernel
theorem dX2_settle_6 : decode cX2_settle 6 = .ok (.ifCond .ne 7, 3) := by decide +kernel
theorem dX2_settle_9 : decode cX2_settle 9 = .ok (.iconst 1, 1) := by decide +kernel
theorem dX2_settle_10 : decode cX2_settle 10 = .ok (.goto 4, 3) := by decide +kernel
theorem dX2_settle_13 : decode cX2_settle 13 = .ok (.iconst 0, 1) := by decide +kernel
theorem dX2_settle_14 : decode cX2_settle 14 = .ok (.ireturn, 1) := by decide +kernel
theorem dX2_answer_0 : decode cX2_answer 0 = .ok (.aload_n 0, 1) := by decide +kernel
theorem dX2_answer_1 : decode cX2_answer 1 = .ok (.iload_n 1, 1) := by decide +kernel
theorem dX2_answer_2 : decode cX2_answer 2 = .ok (.putfield 37, 3) := by decide +kernel
theorem dX2_answer_5 : decode cX2_answer 5 = .ok (.iload_n 2, 1) := by decide +kernel
theorem dX2_answer_6 : decode cX2_answer 6 = .ok (.ireturn, 1) := by decide +kernel
theorem dX2_isWord_0 : decode cX2_isWord 0 = .ok (.iload_n 0, 1) := by decide +kernel
theorem dX2_isWord_1 : decode cX2_isWord 1 = .ok (.ifCond .lt 14, 3) := by decide +kernel
theorem dX2_isWord_4 : decode cX2_isWord 4 = .ok (.iload_n 0, 1) := by decide +kernel
theorem dX2_isWord_5 : decode cX2_isWord 5 = .ok (.sipush 4096, 3) := by decide +kernel
theorem dX2_isWord_8 : decode cX2_isWord 8 = .ok (.if_icmp .ge 7, 3) := by decide +kernel
theorem dX2_isWord_11 : decode cX2_isWord 11 = .ok (.iconst 1, 1) := by decide +kernel
theorem dX2_isWord_12 : decode cX2_isWord 12 = .ok (.goto 4, 3) := by decide +kernel
theorem dX2_isWord_15 : decode cX2_isWord 15 = .ok (.iconst 0, 1) := by decide +kernel
theorem dX2_isWord_16 : decode cX2_isWord 16 = .ok (.ireturn, 1) := by decide +kernel
theorem dX2_isPage_0 : decode cX2_isPage 0 = .ok (.iload_n 0, 1) := by decide +kernel
theorem dX2_isPage_1 : decode cX2_isPage 1 = .ok (.ifCond .lt 14, 3) := by decide +kernel
theorem dX2_isPage_4 : decode cX2_isPage 4 = .ok (.iload_n 0, 1) := by decide +kernel
theorem dX2_isPage_5 : decode cX2_isPage 5 = .ok (.sipush 256, 3) := by decide +kernel
theorem dX2_isPage_8 : decode cX2_isPage 8 = .ok (.if_icmp .ge 7, 3) := by decide +kernel
theorem dX2_isPage_11 : decode cX2_isPage 11 = .ok (.iconst 1, 1) := by decide +kernel
theorem dX2_isPage_12 : decode cX2_isPage 12 = .ok (.goto 4, 3) := by decide +kernel
theorem dX2_isPage_15 : decode cX2_isPage 15 = .ok (.iconst 0, 1) := by decide +kernel
theorem dX2_isPage_16 : decode cX2_isPage 16 = .ok (.ireturn, 1) := by decide +kernel
theorem dX2_isOrder_0 : decode cX2_isOrder 0 = .ok (.iload_n 0, 1) := by decide +kernel
theorem dX2_isOrder_1 : decode cX2_isOrder 1 = .ok (.ifCond .lt 13, 3) := by decide +kernel
theorem dX2_isOrder_4 : decode cX2_isOrder 4 = .ok (.iload_n 0, 1) := by decide +kernel
theorem dX2_isOrder_5 : decode cX2_isOrder 5 = .ok (.bipush 8, 2) := by decide +kernel
theorem dX2_isOrder_7 : decode cX2_isOrder 7 = .ok (.if_icmp .gt 7, 3) := by decide +kernel
theorem dX2_isOrder_10 : decode cX2_isOrder 10 = .ok (.iconst 1, 1) := by decide +kernel
theorem dX2_isOrder_11 : decode cX2_isOrder 11 = .ok (.goto 4, 3) := by decide +kernel
theorem dX2_isOrder_14 : decode cX2_isOrder 14 = .ok (.iconst 0, 1) := by decide +kernel
theorem dX2_isOrder_15 : decode cX2_isOrder 15 = .ok (.ireturn, 1) := by decide +kernel
theorem dX2_isRoot_0 : decode cX2_isRoot 0 = .ok (.iload_n 0, 1) := by decide +kernel
theorem dX2_isRoot_1 : decode cX2_isRoot 1 = .ok (.ifCond .lt 13, 3) := by decide +kernel
theorem dX2_isRoot_4 : decode cX2_isRoot 4 = .ok (.iload_n 0, 1) := by decide +kernel
theorem dX2_isRoot_5 : decode cX2_isRoot 5 = .ok (.bipush 8, 2) := by decide +kernel
theorem dX2_isRoot_7 : decode cX2_isRoot 7 = .ok (.if_icmp .ge 7, 3) := by decide +kernel
theorem dX2_isRoot_10 : decode cX2_isRoot 10 = .ok (.iconst 1, 1) := by decide +kernel
theorem dX2_isRoot_11 : decode cX2_isRoot 11 = .ok (.goto 4, 3) := by decide +kernel
theorem dX2_isRoot_14 : decode cX2_isRoot 14 = .ok (.iconst 0, 1) := by decide +kernel
theorem dX2_isRoot_15 : decode cX2_isRoot 15 = .ok (.ireturn, 1) := by decide +kernel
theorem dX2_isShape_0 : decode cX2_isShape 0 = .ok (.iload_n 0, 1) := by decide +kernel
theorem dX2_isShape_1 : decode cX2_isShape 1 = .ok (.iconst 1, 1) := by decide +kernel
theorem dX2_isShape_2 : decode cX2_isShape 2 = .ok (.if_icmp .lt 23, 3) := by decide +kernel
theorem dX2_isShape_5 : decode cX2_isShape 5 = .ok (.iload_n 0, 1) := by decide +kernel
theorem dX2_isShape_6 : decode cX2_isShape 6 = .ok (.sipush 2047, 3) := by decide +kernel
theorem dX2_isShape_9 : decode cX2_isShape 9 = .ok (.if_icmp .gt 16, 3) := by decide +kernel
theorem dX2_isShape_12 : decode cX2_isShape 12 = .ok (.iload_n 1, 1) := by decide +kernel
theorem dX2_isShape_13 : decode cX2_isShape 13 = .ok (.ifCond .lt 12, 3) := by decide +kernel
theorem dX2_isShape_16 : decode cX2_isShape 16 = .ok (.iload_n 1, 1) := by decide +kernel
theorem dX2_isShape_17 : decode cX2_isShape 17 = .ok (.iload_n 0, 1) := by decide +kernel
theorem dX2_isShape_18 : decode cX2_isShape 18 = .ok (.if_icmp .gt 7, 3) := by decide +kernel
theorem dX2_isShape_21 : decode cX2_isShape 21 = .ok (.iconst 1, 1) := by decide +kernel
theorem dX2_isShape_22 : decode cX2_isShape 22 = .ok (.goto 4, 3) := by decide +kernel
theorem dX2_isShape_25 : decode cX2_isShape 25 = .ok (.iconst 0, 1) := by decide +kernel
theorem dX2_isShape_26 : decode cX2_isShape 26 = .ok (.ireturn, 1) := by decide +kernel
theorem dX2_wordOf_0 : decode cX2_wordOf 0 = .ok (.iload_n 0, 1) := by decide +kernel
theorem dX2_wordOf_1 : decode cX2_wordOf 1 = .ok (.iconst 1, 1) := by decide +kernel
theorem dX2_wordOf_2 : decode cX2_wordOf 2 = .ok (.iadd, 1) := by decide +kernel
theorem dX2_wordOf_3 : decode cX2_wordOf 3 = .ok (.iload_n 1, 1) := by decide +kernel
theorem dX2_wordOf_4 : decode cX2_wordOf 4 = .ok (.iadd, 1) := by decide +kernel
theorem dX2_wordOf_5 : decode cX2_wordOf 5 = .ok (.ireturn, 1) := by decide +kernel
set_option maxRecDepth 20000 in
theorem ggX2_headOf_J9_floorMod_7cf53 : GoodIn wsX2_headOf wsJ9_floorMod_7cf53 := goodIn_r _ [5] (by decide +kernel) (by decide +kernel)
set_option maxRecDepth 20000 in
theorem gX2_headOf_J9_floorMod_7cf53 : GoodIn wsX2_headOf (va_wsS RX2 171 yJ9_floorMod_7cf53 wsJ9_floorMod_7cf53) := goodIn_app (goodIn_of _ (by decide +kernel)) ggX2_headOf_J9_floorMod_7cf53
theorem dX2_headOf_0 : decode cX2_headOf 0 = .ok (.bipush 31, 2) := by decide +kernel
theorem dX2_headOf_2 : decode cX2_headOf 2 = .ok (.iload_n 0, 1) := by decide +kernel
theorem dX2_headOf_3 : decode cX2_headOf 3 = .ok (.imul, 1) := by decide +kernel
theorem dX2_headOf_4 : decode cX2_headOf 4 = .ok (.bipush 7, 2) := by decide +kernel
theorem dX2_headOf_6 : decode cX2_headOf 6 = .ok (.iload_n 1, 1) := by decide +kernel
theorem dX2_headOf_7 : decode cX2_headOf 7 = .ok (.imul, 1) := by decide +kernel
theorem dX2_headOf_8 : decode cX2_headOf 8 = .ok (.iadd, 1) := by decide +kernel
theorem dX2_headOf_9 : decode cX2_headOf 9 = .ok (.bipush 13, 2) := by decide +kernel
theorem dX2_headOf_11 : decode cX2_headOf 11 = .ok (.iload_n 2, 1) := by decide +kernel
theorem dX2_headOf_12 : decode cX2_headOf 12 = .ok (.imul, 1) := by decide +kernel
theorem dX2_headOf_13 : decode cX2_headOf 13 = .ok (.iadd, 1) := by decide +kernel
theorem dX2_headOf_14 : decode cX2_headOf 14 = .ok (.bipush 90, 2) := by decide +kernel
theorem dX2_headOf_16 : decode cX2_headOf 16 = .ok (.iadd, 1) := by decide +kernel
theorem dX2_headOf_17 : decode cX2_headOf 17 = .ok (.sipush 512, 3) := by decide +kernel
theorem dX2_headOf_20 : decode cX2_headOf 20 = .ok (.invokestatic 171, 3) := by decide +kernel
theorem dX2_headOf_23 : decode cX2_headOf 23 = .ok (.iconst 1, 1) := by decide +kernel
theorem dX2_headOf_24 : decode cX2_headOf 24 = .ok (.iadd, 1) := by decide +kernel
theorem dX2_headOf_25 : decode cX2_headOf 25 = .ok (.istore_n 3, 1) := by decide +kernel
theorem dX2_headOf_26 : decode cX2_headOf 26 = .ok (.iload_n 3, 1) := by decide +kernel
theorem dX2_headOf_27 : decode cX2_headOf 27 = .ok (.ldc 176, 2) := by decide +kernel
theorem dX2_headOf_29 : decode cX2_headOf 29 = .ok (.imul, 1) := by decide +kernel
theorem dX2_headOf_30 : decode cX2_headOf 30 = .ok (.iload_n 1, 1) := by decide +kernel
theorem dX2_headOf_31 : decode cX2_headOf 31 = .ok (.sipush 2048, 3) := by decide +kernel
theorem dX2_headOf_34 : decode cX2_headOf 34 = .ok (.imul, 1) := by decide +kernel
theorem dX2_headOf_35 : decode cX2_headOf 35 = .ok (.iadd, 1) := by decide +kernel
theorem dX2_headOf_36 : decode cX2_headOf 36 = .ok (.iload_n 2, 1) := by decide +kernel
theorem dX2_headOf_37 : decode cX2_headOf 37 = .ok (.iadd, 1) := by decide +kernel
theorem dX2_headOf_38 : decode cX2_headOf 38 = .ok (.ireturn, 1) := by decide +kernel
theorem dX2_sizeIn_0 : decode cX2_sizeIn 0 = .ok (.iload_n 0, 1) := by decide +kernel
theorem dX2_sizeIn_1 : decode cX2_sizeIn 1 = .ok (.bipush 11, 2) := by decide +kernel
theorem dX2_sizeIn_3 : decode cX2_sizeIn 3 = .ok (.iushr, 1) := by decide +kernel
theorem dX2_sizeIn_4 : decode cX2_sizeIn 4 = .ok (.sipush 2047, 3) := by decide +kernel
theorem dX2_sizeIn_7 : decode cX2_sizeIn 7 = .ok (.iand, 1) := by decide +kernel
theorem dX2_sizeIn_8 : decode cX2_sizeIn 8 = .ok (.ireturn, 1) := by decide +kernel
theorem dX2_refsIn_0 : decode cX2_refsIn 0 = .ok (.iload_n 0, 1) := by decide +kernel
theorem dX2_refsIn_1 : decode cX2_refsIn 1 = .ok (.sipush 2047, 3) := by decide +kernel
theorem dX2_refsIn_4 : decode cX2_refsIn 4 = .ok (.iand, 1) := by decide +kernel
theorem dX2_refsIn_5 : decode cX2_refsIn 5 = .ok (.ireturn, 1) := by decide +kernel
theorem dX2_classFor_0 : decode cX2_classFor 0 = .ok (.getstatic 177, 3) := by decide +kernel
theorem dX2_classFor_3 : decode cX2_classFor 3 = .ok (.astore_n 1, 1) := by decide +kernel
theorem dX2_classFor_4 : decode cX2_classFor 4 = .ok (.aload_n 1, 1) := by decide +kernel
theorem dX2_classFor_5 : decode cX2_classFor 5 = .ok (.arraylength, 1) := by decide +kernel
theorem dX2_classFor_6 : decode cX2_classFor 6 = .ok (.istore_n 2, 1) := by decide +kernel
theorem dX2_classFor_7 : decode cX2_classFor 7 = .ok (.iconst 0, 1) := by decide +kernel
theorem dX2_classFor_8 : decode cX2_classFor 8 = .ok (.istore_n 3, 1) := by decide +kernel
theorem dX2_classFor_9 : decode cX2_classFor 9 = .ok (.iload_n 3, 1) := by decide +kernel
theorem dX2_classFor_10 : decode cX2_classFor 10 = .ok (.iload_n 2, 1) := by decide +kernel
theorem dX2_classFor_11 : decode cX2_classFor 11 = .ok (.if_icmp .ge 25, 3) := by decide +kernel
theorem dX2_classFor_14 : decode cX2_classFor 14 = .ok (.aload_n 1, 1) := by decide +kernel
theorem dX2_classFor_15 : decode cX2_classFor 15 = .ok (.iload_n 3, 1) := by decide +kernel
theorem dX2_classFor_16 : decode cX2_classFor 16 = .ok (.iaload, 1) := by decide +kernel
theorem dX2_classFor_17 : decode cX2_classFor 17 = .ok (.istore 4, 2) := by decide +kernel
theorem dX2_classFor_19 : decode cX2_classFor 19 = .ok (.iload_n 0, 1) := by decide +kernel
theorem dX2_classFor_20 : decode cX2_classFor 20 = .ok (.iconst 1, 1) := by decide +kernel
theorem dX2_classFor_21 : decode cX2_classFor 21 = .ok (.iadd, 1) := by decide +kernel
theorem dX2_classFor_22 : decode cX2_classFor 22 = .ok (.iload 4, 2) := by decide +kernel
theorem dX2_classFor_24 : decode cX2_classFor 24 = .ok (.if_icmp .gt 6, 3) := by decide +kernel
theorem dX2_classFor_27 : decode cX2_classFor 27 = .ok (.iload 4, 2) := by decide +kernel
theorem dX2_classFor_29 : decode cX2_classFor 29 = .ok (.ireturn, 1) := by decide +kernel
theorem dX2_classFor_30 : decode cX2_classFor 30 = .ok (.iinc 3 1, 3) := by decide +kernel
theorem dX2_classFor_33 : decode cX2_classFor 33 = .ok (.goto (-24), 3) := by decide +kernel
theorem dX2_classFor_36 : decode cX2_classFor 36 = .ok (.iconst 0, 1) := by decide +kernel
theorem dX2_classFor_37 : decode cX2_classFor 37 = .ok (.ireturn, 1) := by decide +kernel
set_option maxRecDepth 20000 in
theorem ggX2_orderFor_X2_classFor : GoodIn wsX2_orderFor wsX2_classFor := goodIn_r _ [4, 5] (by decide +kernel) (by decide +kernel)
set_option maxRecDepth 20000 in
theorem gX2_orderFor_X2_classFor : GoodIn wsX2_orderFor (va_wsS RX2 129 yX2_classFor wsX2_classFor) := goodIn_app (goodIn_of _ (by decide +kernel)) ggX2_orderFor_X2_classFor
theorem dX2_orderFor_0 : decode cX2_orderFor 0 = .ok (.iload_n 0, 1) := by decide +kernel
theorem dX2_orderFor_1 : decode cX2_orderFor 1 = .ok (.invokestatic 129, 3) := by decide +kernel
theorem dX2_orderFor_4 : decode cX2_orderFor 4 = .ok (.ifCond .le 5, 3) := by decide +kernel
theorem dX2_orderFor_7 : decode cX2_orderFor 7 = .ok (.iconst (-1), 1) := by decide +kernel
theorem dX2_orderFor_8 : decode cX2_orderFor 8 = .ok (.ireturn, 1) := by decide +kernel
theorem dX2_orderFor_9 : decode cX2_orderFor 9 = .ok (.iconst 0, 1) := by decide +kernel
theorem dX2_orderFor_10 : decode cX2_orderFor 10 = .ok (.istore_n 1, 1) := by decide +kernel
theorem dX2_orderFor_11 : decode cX2_orderFor 11 = .ok (.iload_n 1, 1) := by decide +kernel
theorem dX2_orderFor_12 : decode cX2_orderFor 12 = .ok (.bipush 8, 2) := by decide +kernel
theorem dX2_orderFor_14 : decode cX2_orderFor 14 = .ok (.if_icmp .gt 21, 3) := by decide +kernel
theorem dX2_orderFor_17 : decode cX2_orderFor 17 = .ok (.iload_n 0, 1) := by decide +kernel
theorem dX2_orderFor_18 : decode cX2_orderFor 18 = .ok (.iconst 1, 1) := by decide +kernel
theorem dX2_orderFor_19 : decode cX2_orderFor 19 = .ok (.iadd, 1) := by decide +kernel
theorem dX2_orderFor_20 : decode cX2_orderFor 20 = .ok (.bipush 16, 2) := by decide +kernel
theorem dX2_orderFor_22 : decode cX2_orderFor 22 = .ok (.iload_n 1, 1) := by decide +kernel
theorem dX2_orderFor_23 : decode cX2_orderFor 23 = .ok (.ishl, 1) := by decide +kernel
theorem dX2_orderFor_24 : decode cX2_orderFor 24 = .ok (.if_icmp .gt 5, 3) := by decide +kernel
theorem dX2_orderFor_27 : decode cX2_orderFor 27 = .ok (.iload_n 1, 1) := by decide +kernel
theorem dX2_orderFor_28 : decode cX2_orderFor 28 = .ok (.ireturn, 1) := by decide +kernel
theorem dX2_orderFor_29 : decode cX2_orderFor 29 = .ok (.iinc 1 1, 3) := by decide +kernel
theorem dX2_orderFor_32 : decode cX2_orderFor 32 = .ok (.goto (-21), 3) := by decide +kernel
theorem dX2_orderFor_35 : decode cX2_orderFor 35 = .ok (.iconst (-1), 1) := by decide +kernel
theorem dX2_orderFor_36 : decode cX2_orderFor 36 = .ok (.ireturn, 1) := by decide +kernel
set_option maxRecDepth 20000 in
theorem ggX2_sizeOf_X1_at : GoodIn wsX2_sizeOf wsX1_at := goodIn_r _ [6, 7, 8, 9, 10, 21, 22, 23, 24, 25] (by decide +kernel) (by decide +kernel)
set_option maxRecDepth 20000 in
theorem gX2_sizeOf_X1_at : GoodIn wsX2_sizeOf (wsV RX2 92 RX1 yX1_at wsX1_at) := goodIn_app (goodIn_of _ (by decide +kernel)) ggX2_sizeOf_X1_at
set_option maxRecDepth 20000 in
theorem ggX2_sizeOf_X2_sizeIn : GoodIn wsX2_sizeOf wsX2_sizeIn := goodIn_r _ [13] (by decide +kernel) (by decide +kernel)
set_option maxRecDepth 20000 in
theorem gX2_sizeOf_X2_sizeIn : GoodIn wsX2_sizeOf (va_wsS RX2 180 yX2_sizeIn wsX2_sizeIn) := goodIn_app (goodIn_of _ (by decide +kernel)) ggX2_sizeOf_X2_sizeIn
theorem dX2_sizeOf_0 : decode cX2_sizeOf 0 = .ok (.aload_n 0, 1) := by decide +kernel
theorem dX2_sizeOf_1 : decode cX2_sizeOf 1 = .ok (.getfield 10, 3) := by decide +kernel
theorem dX2_sizeOf_4 : decode cX2_sizeOf 4 = .ok (.iload_n 1, 1) := by decide +kernel
theorem dX2_sizeOf_5 : decode cX2_sizeOf 5 = .ok (.invokevirtual 92, 3) := by decide +kernel
theorem dX2_sizeOf_8 : decode cX2_sizeOf 8 = .ok (.invokestatic 180, 3) := by decide +kernel
theorem dX2_sizeOf_11 : decode cX2_sizeOf 11 = .ok (.ireturn, 1) := by decide +kernel
set_option maxRecDepth 20000 in
theorem ggX2_refsOf_X1_at : GoodIn wsX2_refsOf wsX1_at := goodIn_r _ [6, 7, 8, 9, 10, 21, 22, 23, 24, 25] (by decide +kernel) (by decide +kernel)
set_option maxRecDepth 20000 in
theorem gX2_refsOf_X1_at : GoodIn wsX2_refsOf (wsV RX2 92 RX1 yX1_at wsX1_at) := goodIn_app (goodIn_of _ (by decide +kernel)) ggX2_refsOf_X1_at
set_option maxRecDepth 20000 in
theorem ggX2_refsOf_X2_refsIn : GoodIn wsX2_refsOf wsX2_refsIn := goodIn_r _ [13] (by decide +kernel) (by decide +kernel)
set_option maxRecDepth 20000 in
theorem gX2_refsOf_X2_refsIn : GoodIn wsX2_refsOf (va_wsS RX2 183 yX2_refsIn wsX2_refsIn) := goodIn_app (goodIn_of _ (by decide +kernel)) ggX2_refsOf_X2_refsIn
theorem dX2_refsOf_0 : decode cX2_refsOf 0 = .ok (.aload_n 0, 1) := by decide +kernel
theorem dX2_refsOf_1 : decode cX2_refsOf 1 = .ok (.getfield 10, 3) := by decide +kernel
theorem dX2_refsOf_4 : decode cX2_refsOf 4 = .ok (.iload_n 1, 1) := by decide +kernel
theorem dX2_refsOf_5 : decode cX2_refsOf 5 = .ok (.invokevirtual 92, 3) := by decide +kernel
theorem dX2_refsOf_8 : decode cX2_refsOf 8 = .ok (.invokestatic 183, 3) := by decide +kernel
theorem dX2_refsOf_11 : decode cX2_refsOf 11 = .ok (.ireturn, 1) := by decide +kernel
set_option maxRecDepth 20000 in
theorem ggX2_lengthOf_X2_sizeOf : GoodIn wsX2_lengthOf wsX2_sizeOf := goodIn_r _ [5, 6, 7, 8, 9, 10, 11, 12, 13, 4, 14, 15, 16, 17, 18, 19, 20, 21, 22, 23, 24, 25, 26, 27, 28, 29] (by decide +kernel) (by decide +kernel)
set_option maxRecDepth 20000 in
theorem gX2_lengthOf_X2_sizeOf : GoodIn wsX2_lengthOf (wsV RX2 126 RX2 yX2_sizeOf wsX2_sizeOf) := goodIn_app (goodIn_of _ (by decide +kernel)) ggX2_lengthOf_X2_sizeOf
theorem dX2_lengthOf_0 : decode cX2_lengthOf 0 = .ok (.aload_n 0, 1) := by decide +kernel
theorem dX2_lengthOf_1 : decode cX2_lengthOf 1 = .ok (.iload_n 1, 1) := by decide +kernel
theorem dX2_lengthOf_2 : decode cX2_lengthOf 2 = .ok (.invokevirtual 126, 3) := by decide +kernel
theorem dX2_lengthOf_5 : decode cX2_lengthOf 5 = .ok (.iconst 1, 1) := by decide +kernel
theorem dX2_lengthOf_6 : decode cX2_lengthOf 6 = .ok (.iadd, 1) := by decide +kernel
theorem dX2_lengthOf_7 : decode cX2_lengthOf 7 = .ok (.ireturn, 1) := by decide +kernel
set_option maxRecDepth 20000 in
theorem ggX2_hasWord_X0_isLive : GoodIn wsX2_hasWord wsX0_isLive := goodIn_r _ [6, 7, 8, 5, 9, 10, 11, 12, 13, 14, 15, 16, 17, 18, 19, 20, 21, 22, 23, 24, 25, 26, 27, 52, 53, 54, 55] (by decide +kernel) (by decide +kernel)
set_option maxRecDepth 20000 in
theorem gX2_hasWord_X0_isLive : GoodIn wsX2_hasWord (wsV RX2 66 RX0 yX0_isLive wsX0_isLive) := goodIn_app (goodIn_of _ (by decide +kernel)) ggX2_hasWord_X0_isLive
set_option maxRecDepth 20000 in
theorem ggX2_hasWord_X2_sizeOf : GoodIn wsX2_hasWord wsX2_sizeOf := goodIn_r _ [32, 33, 34, 35, 36, 37, 38, 39, 40, 31, 41, 42, 43, 44, 45, 46, 47, 48, 49, 50, 51, 56, 57, 58, 59, 60] (by decide +kernel) (by decide +kernel)
set_option maxRecDepth 20000 in
theorem gX2_hasWord_X2_sizeOf : GoodIn wsX2_hasWord (wsV RX2 126 RX2 yX2_sizeOf wsX2_sizeOf) := goodIn_app (goodIn_of _ (by decide +kernel)) ggX2_hasWord_X2_sizeOf
theorem dX2_hasWord_0 : decode cX2_hasWord 0 = .ok (.aload_n 0, 1) := by decide +kernel
theorem dX2_hasWord_1 : decode cX2_hasWord 1 = .ok (.getfield 19, 3) := by decide +kernel
theorem dX2_hasWord_4 : decode cX2_hasWord 4 = .ok (.iload_n 1, 1) := by decide +kernel
theorem dX2_hasWord_5 : decode cX2_hasWord 5 = .ok (.invokevirtual 66, 3) := by decide +kernel
theorem dX2_hasWord_8 : decode cX2_hasWord 8 = .ok (.ifCond .eq 20, 3) := by decide +kernel
theorem dX2_hasWord_11 : decode cX2_hasWord 11 = .ok (.iload_n 2, 1) := by decide +kernel
theorem dX2_hasWord_12 : decode cX2_hasWord 12 = .ok (.ifCond .lt 16, 3) := by decide +kernel
theorem dX2_hasWord_15 : decode cX2_hasWord 15 = .ok (.iload_n 2, 1) := by decide +kernel
theorem dX2_hasWord_16 : decode cX2_hasWord 16 = .ok (.aload_n 0, 1) := by decide +kernel
theorem dX2_hasWord_17 : decode cX2_hasWord 17 = .ok (.iload_n 1, 1) := by decide +kernel
theorem dX2_hasWord_18 : decode cX2_hasWord 18 = .ok (.invokevirtual 126, 3) := by decide +kernel
theorem dX2_hasWord_21 : decode cX2_hasWord 21 = .ok (.if_icmp .ge 7, 3) := by decide +kernel
theorem dX2_hasWord_24 : decode cX2_hasWord 24 = .ok (.iconst 1, 1) := by decide +kernel
theorem dX2_hasWord_25 : decode cX2_hasWord 25 = .ok (.goto 4, 3) := by decide +kernel
theorem dX2_hasWord_28 : decode cX2_hasWord 28 = .ok (.iconst 0, 1) := by decide +kernel
theorem dX2_hasWord_29 : decode cX2_hasWord 29 = .ok (.ireturn, 1) := by decide +kernel
set_option maxRecDepth 20000 in
theorem ggX2_isTarget_X0_isLive : GoodIn wsX2_isTarget wsX0_isLive := goodIn_r _ [6, 7, 8, 5, 9, 10, 11, 12, 13, 14, 15, 16, 17, 18, 19, 20, 21, 22, 23, 24, 25, 26, 27, 35, 36, 37, 38] (by decide +kernel) (by decide +kernel)
set_option maxRecDepth 20000 in
theorem gX2_isTarget_X0_isLive : GoodIn wsX2_isTarget (wsV RX2 66 RX0 yX0_isLive wsX0_isLive) := goodIn_app (goodIn_of _ (by decide +kernel)) ggX2_isTarget_X0_isLive
theorem dX2_isTarget_0 : decode cX2_isTarget 0 = .ok (.iload_n 1, 1) := by decide +kernel
theorem dX2_isTarget_1 : decode cX2_isTarget 1 = .ok (.ifCond .eq 14, 3) := by decide +kernel
theorem dX2_isTarget_4 : decode cX2_isTarget 4 = .ok (.aload_n 0, 1) := by decide +kernel
theorem dX2_isTarget_5 : decode cX2_isTarget 5 = .ok (.getfield 19, 3) := by decide +kernel
theorem dX2_isTarget_8 : decode cX2_isTarget 8 = .ok (.iload_n 1, 1) := by decide +kernel
theorem dX2_isTarget_9 : decode cX2_isTarget 9 = .ok (.invokevirtual 66, 3) := by decide +kernel
theorem dX2_isTarget_12 : decode cX2_isTarget 12 = .ok (.ifCond .eq 7, 3) := by decide +kernel
theorem dX2_isTarget_15 : decode cX2_isTarget 15 = .ok (.iconst 1, 1) := by decide +kernel
theorem dX2_isTarget_16 : decode cX2_isTarget 16 = .ok (.goto 4, 3) := by decide +kernel
theorem dX2_isTarget_19 : decode cX2_isTarget 19 = .ok (.iconst 0, 1) := by decide +kernel
theorem dX2_isTarget_20 : decode cX2_isTarget 20 = .ok (.ireturn, 1) := by decide +kernel
set_option maxRecDepth 20000 in
theorem ggX2_isOfBlock_X0_blockOver : GoodIn wsX2_isOfBlock wsX0_blockOver := goodIn_r _ [6, 7, 8, 9, 10, 5, 11, 12, 13, 14, 15, 16, 17, 18, 19, 20, 21, 22, 23, 24, 25, 26, 27, 28, 29, 30, 31, 32, 60, 61, 62, 63] (by decide +kernel) (by decide +kernel)
set_option maxRecDepth 20000 in
theorem gX2_isOfBlock_X0_blockOver : GoodIn wsX2_isOfBlock (wsV RX2 186 RX0 yX0_blockOver wsX0_blockOver) := goodIn_app (goodIn_of _ (by decide +kernel)) ggX2_isOfBlock_X0_blockOver
set_option maxRecDepth 20000 in
theorem ggX2_isOfBlock_X2_lengthOf : GoodIn wsX2_isOfBlock wsX2_lengthOf := goodIn_r _ [36, 37, 38, 39, 13, 40, 41, 42, 43, 44, 45, 46, 47, 48, 49, 50, 51, 52, 53, 54, 55, 56, 57, 58, 59, 64, 65, 66, 67, 68] (by decide +kernel) (by decide +kernel)
set_option maxRecDepth 20000 in
theorem gX2_isOfBlock_X2_lengthOf : GoodIn wsX2_isOfBlock (wsV RX2 73 RX2 yX2_lengthOf wsX2_lengthOf) := goodIn_app (goodIn_of _ (by decide +kernel)) ggX2_isOfBlock_X2_lengthOf
theorem dX2_isOfBlock_0 : decode cX2_isOfBlock 0 = .ok (.aload_n 0, 1) := by decide +kernel
theorem dX2_isOfBlock_1 : decode cX2_isOfBlock 1 = .ok (.getfield 19, 3) := by decide +kernel
theorem dX2_isOfBlock_4 : decode cX2_isOfBlock 4 = .ok (.iload_n 1, 1) := by decide +kernel
theorem dX2_isOfBlock_5 : decode cX2_isOfBlock 5 = .ok (.invokevirtual 186, 3) := by decide +kernel
theorem dX2_isOfBlock_8 : decode cX2_isOfBlock 8 = .ok (.istore_n 2, 1) := by decide +kernel
theorem dX2_isOfBlock_9 : decode cX2_isOfBlock 9 = .ok (.iload_n 2, 1) := by decide +kernel
theorem dX2_isOfBlock_10 : decode cX2_isOfBlock 10 = .ok (.iconst (-1), 1) := by decide +kernel
theorem dX2_isOfBlock_11 : decode cX2_isOfBlock 11 = .ok (.if_icmp .eq 18, 3) := by decide +kernel
theorem dX2_isOfBlock_14 : decode cX2_isOfBlock 14 = .ok (.iload_n 1, 1) := by decide +kernel
theorem dX2_isOfBlock_15 : decode cX2_isOfBlock 15 = .ok (.iload_n 2, 1) := by decide +kernel
theorem dX2_isOfBlock_16 : decode cX2_isOfBlock 16 = .ok (.isub, 1) := by decide +kernel
theorem dX2_isOfBlock_17 : decode cX2_isOfBlock 17 = .ok (.aload_n 0, 1) := by decide +kernel
theorem dX2_isOfBlock_18 : decode cX2_isOfBlock 18 = .ok (.iload_n 2, 1) := by decide +kernel
theorem dX2_isOfBlock_19 : decode cX2_isOfBlock 19 = .ok (.invokevirtual 73, 3) := by decide +kernel
theorem dX2_isOfBlock_22 : decode cX2_isOfBlock 22 = .ok (.if_icmp .ge 7, 3) := by decide +kernel
theorem dX2_isOfBlock_25 : decode cX2_isOfBlock 25 = .ok (.iconst 1, 1) := by decide +kernel
theorem dX2_isOfBlock_26 : decode cX2_isOfBlock 26 = .ok (.goto 4, 3) := by decide +kernel
theorem dX2_isOfBlock_29 : decode cX2_isOfBlock 29 = .ok (.iconst 0, 1) := by decide +kernel
theorem dX2_isOfBlock_30 : decode cX2_isOfBlock 30 = .ok (.ireturn, 1) := by decide +kernel
theorem dX2_rowAt_0 : decode cX2_rowAt 0 = .ok (.iload_n 1, 1) := by decide +kernel
theorem dX2_rowAt_1 : decode cX2_rowAt 1 = .ok (.ifCond .lt 21, 3) := by decide +kernel
theorem dX2_rowAt_4 : decode cX2_rowAt 4 = .ok (.iload_n 1, 1) := by decide +kernel
theorem dX2_rowAt_5 : decode cX2_rowAt 5 = .ok (.aload_n 0, 1) := by decide +kernel
theorem dX2_rowAt_6 : decode cX2_rowAt 6 = .ok (.getfield 23, 3) := by decide +kernel
theorem dX2_rowAt_9 : decode cX2_rowAt 9 = .ok (.arraylength, 1) := by decide +kernel
theorem dX2_rowAt_10 : decode cX2_rowAt 10 = .ok (.if_icmp .ge 12, 3) := by decide +kernel
theorem dX2_rowAt_13 : decode cX2_rowAt 13 = .ok (.aload_n 0, 1) := by decide +kernel
theorem dX2_rowAt_14 : decode cX2_rowAt 14 = .ok (.getfield 23, 3) := by decide +kernel
theorem dX2_rowAt_17 : decode cX2_rowAt 17 = .ok (.iload_n 1, 1) := by decide +kernel
theorem dX2_rowAt_18 : decode cX2_rowAt 18 = .ok (.iaload, 1) := by decide +kernel
theorem dX2_rowAt_19 : decode cX2_rowAt 19 = .ok (.goto 4, 3) := by decide +kernel
theorem dX2_rowAt_22 : decode cX2_rowAt 22 = .ok (.iconst (-1), 1) := by decide +kernel
theorem dX2_rowAt_23 : decode cX2_rowAt 23 = .ok (.ireturn, 1) := by decide +kernel
set_option maxRecDepth 20000 in
theorem ggX2_listLive_X0_slotsOf : GoodIn wsX2_listLive wsX0_slotsOf := goodIn_r _ [7, 8, 9, 10, 6, 11, 12, 13, 30, 31, 32, 33] (by decide +kernel) (by decide +kernel)
set_option maxRecDepth 20000 in
theorem gX2_listLive_X0_slotsOf : GoodIn wsX2_listLive (wsV RX2 189 RX0 yX0_slotsOf wsX0_slotsOf) := goodIn_app (goodIn_of _ (by decide +kernel)) ggX2_listLive_X0_slotsOf
set_option maxRecDepth 20000 in
theorem ggX2_listLive_X0_blockIn : GoodIn wsX2_listLive wsX0_blockIn := goodIn_r _ [17, 18, 19, 20, 6, 21, 22, 8, 9, 10, 11, 12, 13, 30, 31, 32, 33] (by decide +kernel) (by decide +kernel)
set_option maxRecDepth 20000 in
theorem gX2_listLive_X0_blockIn : GoodIn wsX2_listLive (wsV RX2 192 RX0 yX0_blockIn wsX0_blockIn) := goodIn_app (goodIn_of _ (by decide +kernel)) ggX2_listLive_X0_blockIn
theorem dX2_listLive_0 : decode cX2_listLive 0 = .ok (.iconst 0, 1) := by decide +kernel
theorem dX2_listLive_1 : decode cX2_listLive 1 = .ok (.istore_n 1, 1) := by decide +kernel
theorem dX2_listLive_2 : decode cX2_listLive 2 = .ok (.iconst 1, 1) := by decide +kernel
theorem dX2_listLive_3 : decode cX2_listLive 3 = .ok (.istore_n 2, 1) := by decide +kernel
theorem dX2_listLive_4 : decode cX2_listLive 4 = .ok (.iload_n 2, 1) := by decide +kernel
theorem dX2_listLive_5 : decode cX2_listLive 5 = .ok (.sipush 256, 3) := by decide +kernel
theorem dX2_listLive_8 : decode cX2_listLive 8 = .ok (.if_icmp .ge 71, 3) := by decide +kernel
theorem dX2_listLive_11 : decode cX2_listLive 11 = .ok (.aload_n 0, 1) := by decide +kernel
theorem dX2_listLive_12 : decode cX2_listLive 12 = .ok (.getfield 19, 3) := by decide +kernel
theorem dX2_listLive_15 : decode cX2_listLive 15 = .ok (.iload_n 2, 1) := by decide +kernel
theorem dX2_listLive_16 : decode cX2_listLive 16 = .ok (.invokevirtual 189, 3) := by decide +kernel
theorem dX2_listLive_19 : decode cX2_listLive 19 = .ok (.istore_n 3, 1) := by decide +kernel
theorem dX2_listLive_20 : decode cX2_listLive 20 = .ok (.iconst 0, 1) := by decide +kernel
theorem dX2_listLive_21 : decode cX2_listLive 21 = .ok (.istore 4, 2) := by decide +kernel
theorem dX2_listLive_23 : decode cX2_listLive 23 = .ok (.iload 4, 2) := by decide +kernel
theorem dX2_listLive_25 : decode cX2_listLive 25 = .ok (.iload_n 3, 1) := by decide +kernel
theorem dX2_listLive_26 : decode cX2_listLive 26 = .ok (.if_icmp .ge 47, 3) := by decide +kernel
theorem dX2_listLive_29 : decode cX2_listLive 29 = .ok (.aload_n 0, 1) := by decide +kernel
theorem dX2_listLive_30 : decode cX2_listLive 30 = .ok (.getfield 19, 3) := by decide +kernel
theorem dX2_listLive_33 : decode cX2_listLive 33 = .ok (.iload_n 2, 1) := by decide +kernel
theorem dX2_listLive_34 : decode cX2_listLive 34 = .ok (.iload 4, 2) := by decide +kernel
theorem dX2_listLive_36 : decode cX2_listLive 36 = .ok (.invokevirtual 192, 3) := by decide +kernel
theorem dX2_listLive_39 : decode cX2_listLive 39 = .ok (.istore 5, 2) := by decide +kernel
theorem dX2_listLive_41 : decode cX2_listLive 41 = .ok (.iload 5, 2) := by decide +kernel
theorem dX2_listLive_43 : decode cX2_listLive 43 = .ok (.iconst (-1), 1) := by decide +kernel
theorem dX2_listLive_44 : decode cX2_listLive 44 = .ok (.if_icmp .eq 23, 3) := by decide +kernel
theorem dX2_listLive_47 : decode cX2_listLive 47 = .ok (.iload_n 1, 1) := by decide +kernel
theorem dX2_listLive_48 : decode cX2_listLive 48 = .ok (.aload_n 0, 1) := by decide +kernel
theorem dX2_listLive_49 : decode cX2_listLive 49 = .ok (.getfield 23, 3) := by decide +kernel
theorem dX2_listLive_52 : decode cX2_listLive 52 = .ok (.arraylength, 1) := by decide +kernel
theorem dX2_listLive_53 : decode cX2_listLive 53 = .ok (.if_icmp .ge 14, 3) := by decide +kernel
theorem dX2_listLive_56 : decode cX2_listLive 56 = .ok (.aload_n 0, 1) := by decide +kernel
theorem dX2_listLive_57 : decode cX2_listLive 57 = .ok (.getfield 23, 3) := by decide +kernel
theorem dX2_listLive_60 : decode cX2_listLive 60 = .ok (.iload_n 1, 1) := by decide +kernel
theorem dX2_listLive_61 : decode cX2_listLive 61 = .ok (.iload 5, 2) := by decide +kernel
theorem dX2_listLive_63 : decode cX2_listLive 63 = .ok (.iastore, 1) := by decide +kernel
theorem dX2_listLive_64 : decode cX2_listLive 64 = .ok (.iinc 1 1, 3) := by decide +kernel
theorem dX2_listLive_67 : decode cX2_listLive 67 = .ok (.iinc 4 1, 3) := by decide +kernel
theorem dX2_listLive_70 : decode cX2_listLive 70 = .ok (.goto (-47), 3) := by decide +kernel
theorem dX2_listLive_73 : decode cX2_listLive 73 = .ok (.iinc 2 1, 3) := by decide +kernel
theorem dX2_listLive_76 : decode cX2_listLive 76 = .ok (.goto (-72), 3) := by decide +kernel
theorem dX2_listLive_79 : decode cX2_listLive 79 = .ok (.iload_n 1, 1) := by decide +kernel
theorem dX2_listLive_80 : decode cX2_listLive 80 = .ok (.ireturn, 1) := by decide +kernel
set_option maxRecDepth 20000 in
theorem ggX2_liveWords_X2_listLive : GoodIn wsX2_liveWords wsX2_listLive := goodIn_r _ [5, 6, 7, 8, 9, 10, 11, 12, 13, 14, 15, 16, 17, 18, 19, 20, 21, 22, 23, 24, 25, 26, 27, 52, 53, 54, 55, 56, 57, 58, 59, 60, 61, 62] (by decide +kernel) (by decide +kernel)
set_option maxRecDepth 20000 in
theorem gX2_liveWords_X2_listLive : GoodIn wsX2_liveWords (wsV RX2 111 RX2 yX2_listLive wsX2_listLive) := goodIn_app (goodIn_of _ (by decide +kernel)) ggX2_liveWords_X2_listLive
set_option maxRecDepth 20000 in
theorem ggX2_liveWords_X2_rowAt : GoodIn wsX2_liveWords wsX2_rowAt := goodIn_r _ [31, 7, 52, 53, 54, 55, 56, 57, 58] (by decide +kernel) (by decide +kernel)
set_option maxRecDepth 20000 in
theorem gX2_liveWords_X2_rowAt : GoodIn wsX2_liveWords (wsV RX2 114 RX2 yX2_rowAt wsX2_rowAt) := goodIn_app (goodIn_of _ (by decide +kernel)) ggX2_liveWords_X2_rowAt
set_option maxRecDepth 20000 in
theorem ggX2_liveWords_X2_lengthOf : GoodIn wsX2_liveWords wsX2_lengthOf := goodIn_r _ [35, 36, 37, 38, 4, 39, 40, 41, 42, 43, 44, 45, 46, 47, 48, 49, 50, 51, 52, 53, 54, 55, 56, 57, 58, 63, 64, 65, 66, 67] (by decide +kernel) (by decide +kernel)
set_option maxRecDepth 20000 in
theorem gX2_liveWords_X2_lengthOf : GoodIn wsX2_liveWords (wsV RX2 73 RX2 yX2_lengthOf wsX2_lengthOf) := goodIn_app (goodIn_of _ (by decide +kernel)) ggX2_liveWords_X2_lengthOf
theorem dX2_liveWords_0 : decode cX2_liveWords 0 = .ok (.aload_n 0, 1) := by decide +kernel
theorem dX2_liveWords_1 : decode cX2_liveWords 1 = .ok (.invokevirtual 111, 3) := by decide +kernel
theorem dX2_liveWords_4 : decode cX2_liveWords 4 = .ok (.istore_n 1, 1) := by decide +kernel
theorem dX2_liveWords_5 : decode cX2_liveWords 5 = .ok (.iconst 0, 1) := by decide +kernel
theorem dX2_liveWords_6 : decode cX2_liveWords 6 = .ok (.istore_n 2, 1) := by decide +kernel
theorem dX2_liveWords_7 : decode cX2_liveWords 7 = .ok (.iconst 0, 1) := by decide +kernel
theorem dX2_liveWords_8 : decode cX2_liveWords 8 = .ok (.istore_n 3, 1) := by decide +kernel
theorem dX2_liveWords_9 : decode cX2_liveWords 9 = .ok (.iload_n 3, 1) := by decide +kernel
theorem dX2_liveWords_10 : decode cX2_liveWords 10 = .ok (.iload_n 1, 1) := by decide +kernel
theorem dX2_liveWords_11 : decode cX2_liveWords 11 = .ok (.if_icmp .ge 21, 3) := by decide +kernel
theorem dX2_liveWords_14 : decode cX2_liveWords 14 = .ok (.iload_n 2, 1) := by decide +kernel
theorem dX2_liveWords_15 : decode cX2_liveWords 15 = .ok (.aload_n 0, 1) := by decide +kernel
theorem dX2_liveWords_16 : decode cX2_liveWords 16 = .ok (.aload_n 0, 1) := by decide +kernel
theorem dX2_liveWords_17 : decode cX2_liveWords 17 = .ok (.iload_n 3, 1) := by decide +kernel
theorem dX2_liveWords_18 : decode cX2_liveWords 18 = .ok (.invokevirtual 114, 3) := by decide +kernel
theorem dX2_liveWords_21 : decode cX2_liveWords 21 = .ok (.invokevirtual 73, 3) := by decide +kernel
theorem dX2_liveWords_24 : decode cX2_liveWords 24 = .ok (.iadd, 1) := by decide +kernel
theorem dX2_liveWords_25 : decode cX2_liveWords 25 = .ok (.istore_n 2, 1) := by decide +kernel
theorem dX2_liveWords_26 : decode cX2_liveWords 26 = .ok (.iinc 3 1, 3) := by decide +kernel
theorem dX2_liveWords_29 : decode cX2_liveWords 29 = .ok (.goto (-20), 3) := by decide +kernel
theorem dX2_liveWords_32 : decode cX2_liveWords 32 = .ok (.iload_n 2, 1) := by decide +kernel
theorem dX2_liveWords_33 : decode cX2_liveWords 33 = .ok (.ireturn, 1) := by decide +kernel
set_option maxRecDepth 20000 in
theorem ggX2_leadsTo_X2_equalWords : GoodIn wsX2_leadsTo wsX2_equalWords := goodIn_r _ [5, 6, 7, 8, 9, 10, 11, 12, 13, 4, 14, 55, 56, 57, 58, 59, 60, 61, 62, 63, 64, 65, 66] (by decide +kernel) (by decide +kernel)
set_option maxRecDepth 20000 in
theorem gX2_leadsTo_X2_equalWords : GoodIn wsX2_leadsTo (wsV RX2 195 RX2 yX2_equalWords wsX2_equalWords) := goodIn_app (goodIn_of _ (by decide +kernel)) ggX2_leadsTo_X2_equalWords
set_option maxRecDepth 20000 in
theorem ggX2_leadsTo_X2_listLive : GoodIn wsX2_leadsTo wsX2_listLive := goodIn_r _ [18, 19, 20, 21, 22, 23, 24, 25, 26, 27, 28, 29, 30, 31, 32, 33, 34, 35, 36, 37, 38, 39, 40, 55, 56, 57, 58, 59, 60, 61, 67, 68, 69, 70] (by decide +kernel) (by decide +kernel)
set_option maxRecDepth 20000 in
theorem gX2_leadsTo_X2_listLive : GoodIn wsX2_leadsTo (wsV RX2 111 RX2 yX2_listLive wsX2_listLive) := goodIn_app (goodIn_of _ (by decide +kernel)) ggX2_leadsTo_X2_listLive
set_option maxRecDepth 20000 in
theorem ggX2_leadsTo_X2_rowAt : GoodIn wsX2_leadsTo wsX2_rowAt := goodIn_r _ [44, 20, 55, 56, 57, 58, 59, 60, 61] (by decide +kernel) (by decide +kernel)
set_option maxRecDepth 20000 in
theorem gX2_leadsTo_X2_rowAt : GoodIn wsX2_leadsTo (wsV RX2 114 RX2 yX2_rowAt wsX2_rowAt) := goodIn_app (goodIn_of _ (by decide +kernel)) ggX2_leadsTo_X2_rowAt
set_option maxRecDepth 20000 in
theorem ggX2_leadsTo_X2_wordOf : GoodIn wsX2_leadsTo wsX2_wordOf := goodIn_r _ [47] (by decide +kernel) (by decide +kernel)
set_option maxRecDepth 20000 in
theorem gX2_leadsTo_X2_wordOf : GoodIn wsX2_leadsTo (va_wsS RX2 63 yX2_wordOf wsX2_wordOf) := goodIn_app (goodIn_of _ (by decide +kernel)) ggX2_leadsTo_X2_wordOf
set_option maxRecDepth 20000 in
theorem ggX2_leadsTo_X2_refsOf : GoodIn wsX2_leadsTo wsX2_refsOf := goodIn_r _ [51, 6, 7, 8, 9, 10, 11, 12, 13, 4, 14, 52, 53, 54, 55, 56, 57, 58, 59, 60, 61, 62, 63, 64, 65, 66] (by decide +kernel) (by decide +kernel)
set_option maxRecDepth 20000 in
theorem gX2_leadsTo_X2_refsOf : GoodIn wsX2_leadsTo (wsV RX2 83 RX2 yX2_refsOf wsX2_refsOf) := goodIn_app (goodIn_of _ (by decide +kernel)) ggX2_leadsTo_X2_refsOf
theorem dX2_leadsTo_0 : decode cX2_leadsTo 0 = .ok (.aload_n 0, 1) := by decide +kernel
theorem dX2_leadsTo_1 : decode cX2_leadsTo 1 = .ok (.iconst 1, 1) := by decide +kernel
theorem dX2_leadsTo_2 : decode cX2_leadsTo 2 = .ok (.bipush 8, 2) := by decide +kernel
theorem dX2_leadsTo_4 : decode cX2_leadsTo 4 = .ok (.iload_n 1, 1) := by decide +kernel
theorem dX2_leadsTo_5 : decode cX2_leadsTo 5 = .ok (.invokevirtual 195, 3) := by decide +kernel
theorem dX2_leadsTo_8 : decode cX2_leadsTo 8 = .ok (.istore_n 2, 1) := by decide +kernel
theorem dX2_leadsTo_9 : decode cX2_leadsTo 9 = .ok (.aload_n 0, 1) := by decide +kernel
theorem dX2_leadsTo_10 : decode cX2_leadsTo 10 = .ok (.invokevirtual 111, 3) := by decide +kernel
theorem dX2_leadsTo_13 : decode cX2_leadsTo 13 = .ok (.istore_n 3, 1) := by decide +kernel
theorem dX2_leadsTo_14 : decode cX2_leadsTo 14 = .ok (.iconst 0, 1) := by decide +kernel
theorem dX2_leadsTo_15 : decode cX2_leadsTo 15 = .ok (.istore 4, 2) := by decide +kernel
theorem dX2_leadsTo_17 : decode cX2_leadsTo 17 = .ok (.iload 4, 2) := by decide +kernel
theorem dX2_leadsTo_19 : decode cX2_leadsTo 19 = .ok (.iload_n 3, 1) := by decide +kernel
theorem dX2_leadsTo_20 : decode cX2_leadsTo 20 = .ok (.if_icmp .ge 37, 3) := by decide +kernel
theorem dX2_leadsTo_23 : decode cX2_leadsTo 23 = .ok (.aload_n 0, 1) := by decide +kernel
theorem dX2_leadsTo_24 : decode cX2_leadsTo 24 = .ok (.iload 4, 2) := by decide +kernel
theorem dX2_leadsTo_26 : decode cX2_leadsTo 26 = .ok (.invokevirtual 114, 3) := by decide +kernel
theorem dX2_leadsTo_29 : decode cX2_leadsTo 29 = .ok (.istore 5, 2) := by decide +kernel
theorem dX2_leadsTo_31 : decode cX2_leadsTo 31 = .ok (.iload_n 2, 1) := by decide +kernel
theorem dX2_leadsTo_32 : decode cX2_leadsTo 32 = .ok (.aload_n 0, 1) := by decide +kernel
theorem dX2_leadsTo_33 : decode cX2_leadsTo 33 = .ok (.iload 5, 2) := by decide +kernel
theorem dX2_leadsTo_35 : decode cX2_leadsTo 35 = .ok (.iconst 0, 1) := by decide +kernel
theorem dX2_leadsTo_36 : decode cX2_leadsTo 36 = .ok (.invokestatic 63, 3) := by decide +kernel
theorem dX2_leadsTo_39 : decode cX2_leadsTo 39 = .ok (.aload_n 0, 1) := by decide +kernel
theorem dX2_leadsTo_40 : decode cX2_leadsTo 40 = .ok (.iload 5, 2) := by decide +kernel
theorem dX2_leadsTo_42 : decode cX2_leadsTo 42 = .ok (.invokevirtual 83, 3) := by decide +kernel
theorem dX2_leadsTo_45 : decode cX2_leadsTo 45 = .ok (.iload_n 1, 1) := by decide +kernel
theorem dX2_leadsTo_46 : decode cX2_leadsTo 46 = .ok (.invokevirtual 195, 3) := by decide +kernel
theorem dX2_leadsTo_49 : decode cX2_leadsTo 49 = .ok (.iadd, 1) := by decide +kernel
theorem dX2_leadsTo_50 : decode cX2_leadsTo 50 = .ok (.istore_n 2, 1) := by decide +kernel
theorem dX2_leadsTo_51 : decode cX2_leadsTo 51 = .ok (.iinc 4 1, 3) := by decide +kernel
theorem dX2_leadsTo_54 : decode cX2_leadsTo 54 = .ok (.goto (-37), 3) := by decide +kernel
theorem dX2_leadsTo_57 : decode cX2_leadsTo 57 = .ok (.iload_n 2, 1) := by decide +kernel
theorem dX2_leadsTo_58 : decode cX2_leadsTo 58 = .ok (.ireturn, 1) := by decide +kernel
set_option maxRecDepth 20000 in
theorem ggX2_equalWords_X1_at : GoodIn wsX2_equalWords wsX1_at := goodIn_r _ [6, 7, 8, 9, 10, 18, 19, 20, 21, 22] (by decide +kernel) (by decide +kernel)
set_option maxRecDepth 20000 in
theorem gX2_equalWords_X1_at : GoodIn wsX2_equalWords (wsV RX2 92 RX1 yX1_at wsX1_at) := goodIn_app (goodIn_of _ (by decide +kernel)) ggX2_equalWords_X1_at
theorem dX2_equalWords_0 : decode cX2_equalWords 0 = .ok (.iconst 0, 1) := by decide +kernel
theorem dX2_equalWords_1 : decode cX2_equalWords 1 = .ok (.istore 4, 2) := by decide +kernel
theorem dX2_equalWords_3 : decode cX2_equalWords 3 = .ok (.iconst 0, 1) := by decide +kernel
theorem dX2_equalWords_4 : decode cX2_equalWords 4 = .ok (.istore 5, 2) := by decide +kernel
theorem dX2_equalWords_6 : decode cX2_equalWords 6 = .ok (.iload 5, 2) := by decide +kernel
theorem dX2_equalWords_8 : decode cX2_equalWords 8 = .ok (.iload_n 2, 1) := by decide +kernel
theorem dX2_equalWords_9 : decode cX2_equalWords 9 = .ok (.if_icmp .ge 27, 3) := by decide +kernel
theorem dX2_equalWords_12 : decode cX2_equalWords 12 = .ok (.aload_n 0, 1) := by decide +kernel
theorem dX2_equalWords_13 : decode cX2_equalWords 13 = .ok (.getfield 10, 3) := by decide +kernel
theorem dX2_equalWords_16 : decode cX2_equalWords 16 = .ok (.iload_n 1, 1) := by decide +kernel
theorem dX2_equalWords_17 : decode cX2_equalWords 17 = .ok (.iload 5, 2) := by decide +kernel
theorem dX2_equalWords_19 : decode cX2_equalWords 19 = .ok (.iadd, 1) := by decide +kernel
theorem dX2_equalWords_20 : decode cX2_equalWords 20 = .ok (.invokevirtual 92, 3) := by decide +kernel
theorem dX2_equalWords_23 : decode cX2_equalWords 23 = .ok (.iload_n 3, 1) := by decide +kernel
theorem dX2_equalWords_24 : decode cX2_equalWords 24 = .ok (.if_icmp .ne 6, 3) := by decide +kernel
theorem dX2_equalWords_27 : decode cX2_equalWords 27 = .ok (.iinc 4 1, 3) := by decide +kernel
theorem dX2_equalWords_30 : decode cX2_equalWords 30 = .ok (.iinc 5 1, 3) := by decide +kernel
theorem dX2_equalWords_33 : decode cX2_equalWords 33 = .ok (.goto (-27), 3) := by decide +kernel
theorem dX2_equalWords_36 : decode cX2_equalWords 36 = .ok (.iload 4, 2) := by decide +kernel
theorem dX2_equalWords_38 : decode cX2_equalWords 38 = .ok (.ireturn, 1) := by decide +kernel
set_option maxRecDepth 20000 in
theorem ggX2_release_X0_remove : GoodIn wsX2_release wsX0_remove := goodIn_r _ [7, 8, 9, 10, 11, 12, 6, 13, 14, 15, 16, 17, 18, 19, 20, 21, 22, 23, 24, 25, 26, 27, 28, 29, 30, 31, 32, 33, 34, 35, 54, 55, 56, 57] (by decide +kernel) (by decide +kernel)
set_option maxRecDepth 20000 in
theorem gX2_release_X0_remove : GoodIn wsX2_release (wsV RX2 198 RX0 yX0_remove wsX0_remove) := goodIn_app (goodIn_of _ (by decide +kernel)) ggX2_release_X0_remove
set_option maxRecDepth 20000 in
theorem ggX2_release_X1_write : GoodIn wsX2_release wsX1_write := goodIn_r _ [40, 41, 42, 43, 44, 45, 26, 46, 58, 59, 60, 61, 62] (by decide +kernel) (by decide +kernel)
set_option maxRecDepth 20000 in
theorem gX2_release_X1_write : GoodIn wsX2_release (wsV RX2 60 RX1 yX1_write wsX1_write) := goodIn_app (goodIn_of _ (by decide +kernel)) ggX2_release_X1_write
theorem dX2_release_0 : decode cX2_release 0 = .ok (.aload_n 0, 1) := by decide +kernel
theorem dX2_release_1 : decode cX2_release 1 = .ok (.getfield 19, 3) := by decide +kernel
theorem dX2_release_4 : decode cX2_release 4 = .ok (.iload_n 1, 1) := by decide +kernel
theorem dX2_release_5 : decode cX2_release 5 = .ok (.invokevirtual 198, 3) := by decide +kernel
theorem dX2_release_8 : decode cX2_release 8 = .ok (.aload_n 0, 1) := by decide +kernel
theorem dX2_release_9 : decode cX2_release 9 = .ok (.getfield 10, 3) := by decide +kernel
theorem dX2_release_12 : decode cX2_release 12 = .ok (.iload_n 1, 1) := by decide +kernel
theorem dX2_release_13 : decode cX2_release 13 = .ok (.iconst 0, 1) := by decide +kernel
theorem dX2_release_14 : decode cX2_release 14 = .ok (.invokevirtual 60, 3) := by decide +kernel
theorem dX2_release_17 : decode cX2_release 17 = .ok (.return_, 1) := by decide +kernel
theorem dX2_addFound_0 : decode cX2_addFound 0 = .ok (.aload_n 0, 1) := by decide +kernel
theorem dX2_addFound_1 : decode cX2_addFound 1 = .ok (.getfield 27, 3) := by decide +kernel
theorem dX2_addFound_4 : decode cX2_addFound 4 = .ok (.aload_n 0, 1) := by decide +kernel
theorem dX2_addFound_5 : decode cX2_addFound 5 = .ok (.getfield 23, 3) := by decide +kernel
theorem dX2_addFound_8 : decode cX2_addFound 8 = .ok (.arraylength, 1) := by decide +kernel
theorem dX2_addFound_9 : decode cX2_addFound 9 = .ok (.if_icmp .ge 23, 3) := by decide +kernel
theorem dX2_addFound_12 : decode cX2_addFound 12 = .ok (.aload_n 0, 1) := by decide +kernel
theorem dX2_addFound_13 : decode cX2_addFound 13 = .ok (.getfield 23, 3) := by decide +kernel
theorem dX2_addFound_16 : decode cX2_addFound 16 = .ok (.aload_n 0, 1) := by decide +kernel
theorem dX2_addFound_17 : decode cX2_addFound 17 = .ok (.getfield 27, 3) := by decide +kernel
theorem dX2_addFound_20 : decode cX2_addFound 20 = .ok (.iload_n 1, 1) := by decide +kernel
theorem dX2_addFound_21 : decode cX2_addFound 21 = .ok (.iastore, 1) := by decide +kernel
theorem dX2_addFound_22 : decode cX2_addFound 22 = .ok (.aload_n 0, 1) := by decide +kernel
theorem dX2_addFound_23 : decode cX2_addFound 23 = .ok (.dup, 1) := by decide +kernel
theorem dX2_addFound_24 : decode cX2_addFound 24 = .ok (.getfield 27, 3) := by decide +kernel
theorem dX2_addFound_27 : decode cX2_addFound 27 = .ok (.iconst 1, 1) := by decide +kernel
theorem dX2_addFound_28 : decode cX2_addFound 28 = .ok (.iadd, 1) := by decide +kernel
theorem dX2_addFound_29 : decode cX2_addFound 29 = .ok (.putfield 27, 3) := by decide +kernel
theorem dX2_addFound_32 : decode cX2_addFound 32 = .ok (.return_, 1) := by decide +kernel
set_option maxRecDepth 20000 in
theorem ggX2_markReached_X0_clearMarks : GoodIn wsX2_markReached wsX0_clearMarks := goodIn_r _ [8, 9, 10, 11, 12, 13, 88, 89, 90, 91] (by decide +kernel) (by decide +kernel)
set_option maxRecDepth 20000 in
theorem gX2_markReached_X0_clearMarks : GoodIn wsX2_markReached (wsV RX2 201 RX0 yX0_clearMarks wsX0_clearMarks) := goodIn_app (goodIn_of _ (by decide +kernel)) ggX2_markReached_X0_clearMarks
set_option maxRecDepth 20000 in
theorem ggX2_markReached_X2_markFrom : GoodIn wsX2_markReached wsX2_markFrom := goodIn_r _ [18, 19, 1, 20, 21, 22, 23, 24, 25, 26, 17, 27, 28, 29, 30, 7, 31, 9, 32, 33, 34, 35, 36, 37, 38, 39, 40, 41, 42, 43, 44, 45, 46, 47, 48, 49, 50, 51, 52, 53, 54, 55, 56, 57, 58, 59, 60, 61, 62, 63, 64, 65, 66, 2, 3, 81, 82, 83, 84, 85, 86, 87, 92, 93, 94, 95, 96, 88, 89, 90, 91] (by decide +kernel) (by decide +kernel)
set_option maxRecDepth 20000 in
theorem gX2_markReached_X2_markFrom : GoodIn wsX2_markReached (wsV RX2 204 RX2 yX2_markFrom wsX2_markFrom) := goodIn_app (goodIn_of _ (by decide +kernel)) ggX2_markReached_X2_markFrom
set_option maxRecDepth 20000 in
theorem ggX2_markReached_X2_rowAt : GoodIn wsX2_markReached wsX2_rowAt := goodIn_r _ [70, 3, 81, 82, 83, 84, 85, 86, 87] (by decide +kernel) (by decide +kernel)
set_option maxRecDepth 20000 in
theorem gX2_markReached_X2_rowAt : GoodIn wsX2_markReached (wsV RX2 114 RX2 yX2_rowAt wsX2_rowAt) := goodIn_app (goodIn_of _ (by decide +kernel)) ggX2_markReached_X2_rowAt
set_option maxRecDepth 20000 in
theorem ggX2_markReached_X2_wordOf : GoodIn wsX2_markReached wsX2_wordOf := goodIn_r _ [73] (by decide +kernel) (by decide +kernel)
set_option maxRecDepth 20000 in
theorem gX2_markReached_X2_wordOf : GoodIn wsX2_markReached (va_wsS RX2 63 yX2_wordOf wsX2_wordOf) := goodIn_app (goodIn_of _ (by decide +kernel)) ggX2_markReached_X2_wordOf
set_option maxRecDepth 20000 in
theorem ggX2_markReached_X2_refsOf : GoodIn wsX2_markReached wsX2_refsOf := goodIn_r _ [77, 19, 20, 21, 22, 23, 24, 25, 26, 17, 27, 78, 79, 80, 81, 82, 83, 84, 85, 86, 87, 92, 93, 94, 95, 96] (by decide +kernel) (by decide +kernel)
set_option maxRecDepth 20000 in
theorem gX2_markReached_X2_refsOf : GoodIn wsX2_markReached (wsV RX2 83 RX2 yX2_refsOf wsX2_refsOf) := goodIn_app (goodIn_of _ (by decide +kernel)) ggX2_markReached_X2_refsOf
theorem dX2_markReached_0 : decode cX2_markReached 0 = .ok (.aload_n 0, 1) := by decide +kernel
theorem dX2_markReached_1 : decode cX2_markReached 1 = .ok (.getfield 19, 3) := by decide +kernel
theorem dX2_markReached_4 : decode cX2_markReached 4 = .ok (.invokevirtual 201, 3) := by decide +kernel
theorem dX2_markReached_7 : decode cX2_markReached 7 = .ok (.aload_n 0, 1) := by decide +kernel
theorem dX2_markReached_8 : decode cX2_markReached 8 = .ok (.iconst 0, 1) := by decide +kernel
theorem dX2_markReached_9 : decode cX2_markReached 9 = .ok (.putfield 27, 3) := by decide +kernel
theorem dX2_markReached_12 : decode cX2_markReached 12 = .ok (.aload_n 0, 1) := by decide +kernel
theorem dX2_markReached_13 : decode cX2_markReached 13 = .ok (.iconst 1, 1) := by decide +kernel
theorem dX2_markReached_14 : decode cX2_markReached 14 = .ok (.bipush 8, 2) := by decide +kernel
theorem dX2_markReached_16 : decode cX2_markReached 16 = .ok (.invokevirtual 204, 3) := by decide +kernel
theorem dX2_markReached_19 : decode cX2_markReached 19 = .ok (.iconst 0, 1) := by decide +kernel
theorem dX2_markReached_20 : decode cX2_markReached 20 = .ok (.istore_n 1, 1) := by decide +kernel
theorem dX2_markReached_21 : decode cX2_markReached 21 = .ok (.iload_n 1, 1) := by decide +kernel
theorem dX2_markReached_22 : decode cX2_markReached 22 = .ok (.aload_n 0, 1) := by decide +kernel
theorem dX2_markReached_23 : decode cX2_markReached 23 = .ok (.getfield 27, 3) := by decide +kernel
theorem dX2_markReached_26 : decode cX2_markReached 26 = .ok (.if_icmp .ge 38, 3) := by decide +kernel
theorem dX2_markReached_29 : decode cX2_markReached 29 = .ok (.iload_n 1, 1) := by decide +kernel
theorem dX2_markReached_30 : decode cX2_markReached 30 = .ok (.aload_n 0, 1) := by decide +kernel
theorem dX2_markReached_31 : decode cX2_markReached 31 = .ok (.getfield 23, 3) := by decide +kernel
theorem dX2_markReached_34 : decode cX2_markReached 34 = .ok (.arraylength, 1) := by decide +kernel
theorem dX2_markReached_35 : decode cX2_markReached 35 = .ok (.if_icmp .ge 29, 3) := by decide +kernel
theorem dX2_markReached_38 : decode cX2_markReached 38 = .ok (.aload_n 0, 1) := by decide +kernel
theorem dX2_markReached_39 : decode cX2_markReached 39 = .ok (.iload_n 1, 1) := by decide +kernel
theorem dX2_markReached_40 : decode cX2_markReached 40 = .ok (.invokevirtual 114, 3) := by decide +kernel
theorem dX2_markReached_43 : decode cX2_markReached 43 = .ok (.istore_n 2, 1) := by decide +kernel
theorem dX2_markReached_44 : decode cX2_markReached 44 = .ok (.aload_n 0, 1) := by decide +kernel
theorem dX2_markReached_45 : decode cX2_markReached 45 = .ok (.iload_n 2, 1) := by decide +kernel
theorem dX2_markReached_46 : decode cX2_markReached 46 = .ok (.iconst 0, 1) := by decide +kernel
theorem dX2_markReached_47 : decode cX2_markReached 47 = .ok (.invokestatic 63, 3) := by decide +kernel
theorem dX2_markReached_50 : decode cX2_markReached 50 = .ok (.aload_n 0, 1) := by decide +kernel
theorem dX2_markReached_51 : decode cX2_markReached 51 = .ok (.iload_n 2, 1) := by decide +kernel
theorem dX2_markReached_52 : decode cX2_markReached 52 = .ok (.invokevirtual 83, 3) := by decide +kernel
theorem dX2_markReached_55 : decode cX2_markReached 55 = .ok (.invokevirtual 204, 3) := by decide +kernel
theorem dX2_markReached_58 : decode cX2_markReached 58 = .ok (.iinc 1 1, 3) := by decide +kernel
theorem dX2_markReached_61 : decode cX2_markReached 61 = .ok (.goto (-40), 3) := by decide +kernel
theorem dX2_markReached_64 : decode cX2_markReached 64 = .ok (.return_, 1) := by decide +kernel
set_option maxRecDepth 20000 in
theorem ggX2_markFrom_X1_at : GoodIn wsX2_markFrom wsX1_at := goodIn_r _ [7, 8, 9, 10, 11, 62, 63, 64, 65, 66] (by decide +kernel) (by decide +kernel)
set_option maxRecDepth 20000 in
theorem gX2_markFrom_X1_at : GoodIn wsX2_markFrom (wsV RX2 92 RX1 yX1_at wsX1_at) := goodIn_app (goodIn_of _ (by decide +kernel)) ggX2_markFrom_X1_at
set_option maxRecDepth 20000 in
theorem ggX2_markFrom_X0_mark : GoodIn wsX2_markFrom wsX0_mark := goodIn_r _ [16, 17, 18, 19, 15, 20, 21, 10, 22, 23, 24, 25, 26, 27, 28, 29, 30, 31, 32, 33, 34, 35, 36, 37, 38, 39, 40, 41, 42, 43, 44, 45, 46, 47, 48, 67, 68, 69, 70] (by decide +kernel) (by decide +kernel)
set_option maxRecDepth 20000 in
theorem gX2_markFrom_X0_mark : GoodIn wsX2_markFrom (wsV RX2 207 RX0 yX0_mark wsX0_mark) := goodIn_app (goodIn_of _ (by decide +kernel)) ggX2_markFrom_X0_mark
set_option maxRecDepth 20000 in
theorem ggX2_markFrom_X2_addFound : GoodIn wsX2_markFrom wsX2_addFound := goodIn_r _ [52, 53, 54, 55, 56, 57, 58, 59, 60, 61] (by decide +kernel) (by decide +kernel)
set_option maxRecDepth 20000 in
theorem gX2_markFrom_X2_addFound : GoodIn wsX2_markFrom (wsV RX2 210 RX2 yX2_addFound wsX2_addFound) := goodIn_app (goodIn_of _ (by decide +kernel)) ggX2_markFrom_X2_addFound
theorem dX2_markFrom_0 : decode cX2_markFrom 0 = .ok (.iconst 0, 1) := by decide +kernel
theorem dX2_markFrom_1 : decode cX2_markFrom 1 = .ok (.istore_n 3, 1) := by decide +kernel
theorem dX2_markFrom_2 : decode cX2_markFrom 2 = .ok (.iload_n 3, 1) := by decide +kernel
theorem dX2_markFrom_3 : decode cX2_markFrom 3 = .ok (.iload_n 2, 1) := by decide +kernel
theorem dX2_markFrom_4 : decode cX2_markFrom 4 = .ok (.if_icmp .ge 39, 3) := by decide +kernel
theorem dX2_markFrom_7 : decode cX2_markFrom 7 = .ok (.aload_n 0, 1) := by decide +kernel
theorem dX2_markFrom_8 : decode cX2_markFrom 8 = .ok (.getfield 10, 3) := by decide +kernel
theorem dX2_markFrom_11 : decode cX2_markFrom 11 = .ok (.iload_n 1, 1) := by decide +kernel
theorem dX2_markFrom_12 : decode cX2_markFrom 12 = .ok (.iload_n 3, 1) := by decide +kernel
theorem dX2_markFrom_13 : decode cX2_markFrom 13 = .ok (.iadd, 1) := by decide +kernel
theorem dX2_markFrom_14 : decode cX2_markFrom 14 = .ok (.invokevirtual 92, 3) := by decide +kernel
theorem dX2_markFrom_17 : decode cX2_markFrom 17 = .ok (.istore 4, 2) := by decide +kernel
theorem dX2_markFrom_19 : decode cX2_markFrom 19 = .ok (.aload_n 0, 1) := by decide +kernel
theorem dX2_markFrom_20 : decode cX2_markFrom 20 = .ok (.getfield 19, 3) := by decide +kernel
theorem dX2_markFrom_23 : decode cX2_markFrom 23 = .ok (.iload 4, 2) := by decide +kernel
theorem dX2_markFrom_25 : decode cX2_markFrom 25 = .ok (.invokevirtual 207, 3) := by decide +kernel
theorem dX2_markFrom_28 : decode cX2_markFrom 28 = .ok (.ifCond .eq 9, 3) := by decide +kernel
theorem dX2_markFrom_31 : decode cX2_markFrom 31 = .ok (.aload_n 0, 1) := by decide +kernel
theorem dX2_markFrom_32 : decode cX2_markFrom 32 = .ok (.iload 4, 2) := by decide +kernel
theorem dX2_markFrom_34 : decode cX2_markFrom 34 = .ok (.invokevirtual 210, 3) := by decide +kernel
theorem dX2_markFrom_37 : decode cX2_markFrom 37 = .ok (.iinc 3 1, 3) := by decide +kernel
theorem dX2_markFrom_40 : decode cX2_markFrom 40 = .ok (.goto (-38), 3) := by decide +kernel
theorem dX2_markFrom_43 : decode cX2_markFrom 43 = .ok (.return_, 1) := by decide +kernel
set_option maxRecDepth 20000 in
theorem ggX2_recover_X0_freeAll : GoodIn wsX2_recover wsX0_freeAll := goodIn_r _ [9, 10, 11, 12, 13, 14, 15, 152, 153, 154, 155] (by decide +kernel) (by decide +kernel)
set_option maxRecDepth 20000 in
theorem gX2_recover_X0_freeAll : GoodIn wsX2_recover (wsV RX2 213 RX0 yX0_freeAll wsX0_freeAll) := goodIn_app (goodIn_of _ (by decide +kernel)) ggX2_recover_X0_freeAll
set_option maxRecDepth 20000 in
theorem ggX2_recover_X2_reviveFrom : GoodIn wsX2_recover wsX2_reviveFrom := goodIn_r _ [20, 21, 1, 3, 22, 23, 24, 25, 26, 27, 28, 19, 29, 30, 31, 32, 33, 34, 35, 36, 8, 37, 38, 39, 40, 41, 42, 43, 44, 45, 46, 47, 48, 10, 49, 50, 51, 52, 53, 54, 55, 56, 11, 57, 58, 59, 60, 61, 62, 63, 64, 65, 66, 67, 68, 69, 70, 71, 72, 73, 74, 75, 76, 77, 78, 79, 80, 81, 82, 83, 84, 85, 86, 87, 88, 89, 90, 91, 92, 93, 94, 95, 96, 97, 98, 99, 100, 101, 102, 103, 104, 105, 106, 107, 108, 109, 110, 111, 112, 113, 114, 115, 116, 117, 118, 119, 120, 121, 122, 123, 124, 125, 126, 127, 128, 129, 130, 2, 4, 131, 132, 133, 134, 135, 136, 137, 145, 146, 147, 148, 149, 150, 151, 156, 157, 158, 159, 160, 152, 153, 154, 155] (by decide +kernel) (by decide +kernel)
set_option maxRecDepth 20000 in
theorem gX2_recover_X2_reviveFrom : GoodIn wsX2_recover (wsV RX2 216 RX2 yX2_reviveFrom wsX2_reviveFrom) := goodIn_app (goodIn_of _ (by decide +kernel)) ggX2_recover_X2_reviveFrom
set_option maxRecDepth 20000 in
theorem ggX2_recover_X2_rowAt : GoodIn wsX2_recover wsX2_rowAt := goodIn_r _ [141, 4, 145, 146, 147, 148, 149, 150, 151] (by decide +kernel) (by decide +kernel)
set_option maxRecDepth 20000 in
theorem gX2_recover_X2_rowAt : GoodIn wsX2_recover (wsV RX2 114 RX2 yX2_rowAt wsX2_rowAt) := goodIn_app (goodIn_of _ (by decide +kernel)) ggX2_recover_X2_rowAt
set_option maxRecDepth 20000 in
theorem ggX2_recover_X2_wordOf : GoodIn wsX2_recover wsX2_wordOf := goodIn_r _ [144] (by decide +kernel) (by decide +kernel)
set_option maxRecDepth 20000 in
theorem gX2_recover_X2_wordOf : GoodIn wsX2_recover (va_wsS RX2 63 yX2_wordOf wsX2_wordOf) := goodIn_app (goodIn_of _ (by decide +kernel)) ggX2_recover_X2_wordOf
set_option maxRecDepth 20000 in
theorem ggX2_recover_X2_refsOf : GoodIn wsX2_recover wsX2_refsOf := goodIn_r _ [71, 21, 22, 23, 24, 25, 26, 27, 28, 19, 29, 72, 73, 74, 145, 146, 147, 148, 149, 150, 151, 156, 157, 158, 159, 160] (by decide +kernel) (by decide +kernel)
set_option maxRecDepth 20000 in
theorem gX2_recover_X2_refsOf : GoodIn wsX2_recover (wsV RX2 83 RX2 yX2_refsOf wsX2_refsOf) := goodIn_app (goodIn_of _ (by decide +kernel)) ggX2_recover_X2_refsOf
theorem dX2_recover_0 : decode cX2_recover 0 = .ok (.aload_n 0, 1) := by decide +kernel
theorem dX2_recover_1 : decode cX2_recover 1 = .ok (.getfield 19, 3) := by decide +kernel
theorem dX2_recover_4 : decode cX2_recover 4 = .ok (.invokevirtual 213, 3) := by decide +kernel
theorem dX2_recover_7 : decode cX2_recover 7 = .ok (.aload_n 0, 1) := by decide +kernel
theorem dX2_recover_8 : decode cX2_recover 8 = .ok (.iconst 0, 1) := by decide +kernel
theorem dX2_recover_9 : decode cX2_recover 9 = .ok (.putfield 27, 3) := by decide +kernel
theorem dX2_recover_12 : decode cX2_recover 12 = .ok (.aload_n 0, 1) := by decide +kernel
theorem dX2_recover_13 : decode cX2_recover 13 = .ok (.iconst 0, 1) := by decide +kernel
theorem dX2_recover_14 : decode cX2_recover 14 = .ok (.putfield 31, 3) := by decide +kernel
theorem dX2_recover_17 : decode cX2_recover 17 = .ok (.aload_n 0, 1) := by decide +kernel
theorem dX2_recover_18 : decode cX2_recover 18 = .ok (.iconst 1, 1) := by decide +kernel
theorem dX2_recover_19 : decode cX2_recover 19 = .ok (.bipush 8, 2) := by decide +kernel
theorem dX2_recover_21 : decode cX2_recover 21 = .ok (.invokevirtual 216, 3) := by decide +kernel
theorem dX2_recover_24 : decode cX2_recover 24 = .ok (.iconst 0, 1) := by decide +kernel
theorem dX2_recover_25 : decode cX2_recover 25 = .ok (.istore_n 1, 1) := by decide +kernel
theorem dX2_recover_26 : decode cX2_recover 26 = .ok (.iload_n 1, 1) := by decide +kernel
theorem dX2_recover_27 : decode cX2_recover 27 = .ok (.aload_n 0, 1) := by decide +kernel
theorem dX2_recover_28 : decode cX2_recover 28 = .ok (.getfield 27, 3) := by decide +kernel
theorem dX2_recover_31 : decode cX2_recover 31 = .ok (.if_icmp .ge 38, 3) := by decide +kernel
theorem dX2_recover_34 : decode cX2_recover 34 = .ok (.iload_n 1, 1) := by decide +kernel
theorem dX2_recover_35 : decode cX2_recover 35 = .ok (.aload_n 0, 1) := by decide +kernel
theorem dX2_recover_36 : decode cX2_recover 36 = .ok (.getfield 23, 3) := by decide +kernel
theorem dX2_recover_39 : decode cX2_recover 39 = .ok (.arraylength, 1) := by decide +kernel
theorem dX2_recover_40 : decode cX2_recover 40 = .ok (.if_icmp .ge 29, 3) := by decide +kernel
theorem dX2_recover_43 : decode cX2_recover 43 = .ok (.aload_n 0, 1) := by decide +kernel
theorem dX2_recover_44 : decode cX2_recover 44 = .ok (.iload_n 1, 1) := by decide +kernel
theorem dX2_recover_45 : decode cX2_recover 45 = .ok (.invokevirtual 114, 3) := by decide +kernel
theorem dX2_recover_48 : decode cX2_recover 48 = .ok (.istore_n 2, 1) := by decide +kernel
theorem dX2_recover_49 : decode cX2_recover 49 = .ok (.aload_n 0, 1) := by decide +kernel
theorem dX2_recover_50 : decode cX2_recover 50 = .ok (.iload_n 2, 1) := by decide +kernel
theorem dX2_recover_51 : decode cX2_recover 51 = .ok (.iconst 0, 1) := by decide +kernel
theorem dX2_recover_52 : decode cX2_recover 52 = .ok (.invokestatic 63, 3) := by decide +kernel
theorem dX2_recover_55 : decode cX2_recover 55 = .ok (.aload_n 0, 1) := by decide +kernel
theorem dX2_recover_56 : decode cX2_recover 56 = .ok (.iload_n 2, 1) := by decide +kernel
theorem dX2_recover_57 : decode cX2_recover 57 = .ok (.invokevirtual 83, 3) := by decide +kernel
theorem dX2_recover_60 : decode cX2_recover 60 = .ok (.invokevirtual 216, 3) := by decide +kernel
theorem dX2_recover_63 : decode cX2_recover 63 = .ok (.iinc 1 1, 3) := by decide +kernel
theorem dX2_recover_66 : decode cX2_recover 66 = .ok (.goto (-40), 3) := by decide +kernel
theorem dX2_recover_69 : decode cX2_recover 69 = .ok (.return_, 1) := by decide +kernel
set_option maxRecDepth 20000 in
theorem ggX2_reviveFrom_X1_at : GoodIn wsX2_reviveFrom wsX1_at := goodIn_r _ [8, 9, 10, 11, 12, 133, 134, 135, 136, 137] (by decide +kernel) (by decide +kernel)
set_option maxRecDepth 20000 in
theorem gX2_reviveFrom_X1_at : GoodIn wsX2_reviveFrom (wsV RX2 92 RX1 yX1_at wsX1_at) := goodIn_app (goodIn_of _ (by decide +kernel)) ggX2_reviveFrom_X1_at
set_option maxRecDepth 20000 in
theorem ggX2_reviveFrom_X2_isTarget : GoodIn wsX2_reviveFrom wsX2_isTarget := goodIn_r _ [16, 2, 17, 18, 19, 20, 21, 22, 23, 24, 25, 26, 27, 28, 29, 30, 31, 32, 33, 34, 35, 36, 37, 38, 39, 40, 41, 42, 126, 127, 128, 129, 130, 131, 132, 138, 139, 140, 141] (by decide +kernel) (by decide +kernel)
set_option maxRecDepth 20000 in
theorem gX2_reviveFrom_X2_isTarget : GoodIn wsX2_reviveFrom (wsV RX2 89 RX2 yX2_isTarget wsX2_isTarget) := goodIn_app (goodIn_of _ (by decide +kernel)) ggX2_reviveFrom_X2_isTarget
set_option maxRecDepth 20000 in
theorem ggX2_reviveFrom_X2_canRevive : GoodIn wsX2_reviveFrom wsX2_canRevive := goodIn_r _ [46, 1, 2, 47, 48, 49, 11, 50, 4, 5, 6, 7, 8, 9, 10, 12, 51, 52, 53, 54, 55, 56, 57, 58, 59, 60, 61, 62, 63, 64, 65, 66, 67, 68, 69, 70, 71, 72, 73, 74, 20, 75, 22, 23, 24, 76, 77, 78, 35, 36, 37, 79, 80, 81, 82, 33, 83, 84, 85, 86, 34, 87, 88, 89, 90, 91, 92, 93, 94, 95, 96, 97, 98, 99, 100, 126, 127, 128, 129, 130, 131, 132, 133, 134, 135, 136, 137, 138, 139, 140, 141] (by decide +kernel) (by decide +kernel)
set_option maxRecDepth 20000 in
theorem gX2_reviveFrom_X2_canRevive : GoodIn wsX2_reviveFrom (wsV RX2 219 RX2 yX2_canRevive wsX2_canRevive) := goodIn_app (goodIn_of _ (by decide +kernel)) ggX2_reviveFrom_X2_canRevive
set_option maxRecDepth 20000 in
theorem ggX2_reviveFrom_X2_sizeOf : GoodIn wsX2_reviveFrom wsX2_sizeOf := goodIn_r _ [50, 1, 4, 5, 6, 7, 8, 9, 10, 11, 12, 51, 52, 53, 126, 127, 128, 129, 130, 131, 132, 133, 134, 135, 136, 137] (by decide +kernel) (by decide +kernel)
set_option maxRecDepth 20000 in
theorem gX2_reviveFrom_X2_sizeOf : GoodIn wsX2_reviveFrom (wsV RX2 126 RX2 yX2_sizeOf wsX2_sizeOf) := goodIn_app (goodIn_of _ (by decide +kernel)) ggX2_reviveFrom_X2_sizeOf
set_option maxRecDepth 20000 in
theorem ggX2_reviveFrom_X0_add : GoodIn wsX2_reviveFrom wsX0_add := goodIn_r _ [104, 42, 22, 23, 20, 24, 76, 11, 77, 78, 105, 106, 107, 108, 33, 34, 87, 88, 89, 90, 91, 109, 110, 111, 112, 95, 96, 25, 26, 27, 28, 29, 30, 31, 32, 35, 36, 37, 138, 139, 140, 141] (by decide +kernel) (by decide +kernel)
set_option maxRecDepth 20000 in
theorem gX2_reviveFrom_X0_add : GoodIn wsX2_reviveFrom (wsV RX2 52 RX0 yX0_add wsX0_add) := goodIn_app (goodIn_of _ (by decide +kernel)) ggX2_reviveFrom_X0_add
set_option maxRecDepth 20000 in
theorem ggX2_reviveFrom_X2_addFound : GoodIn wsX2_reviveFrom wsX2_addFound := goodIn_r _ [116, 117, 118, 126, 127, 128, 129, 130, 131, 132] (by decide +kernel) (by decide +kernel)
set_option maxRecDepth 20000 in
theorem gX2_reviveFrom_X2_addFound : GoodIn wsX2_reviveFrom (wsV RX2 210 RX2 yX2_addFound wsX2_addFound) := goodIn_app (goodIn_of _ (by decide +kernel)) ggX2_reviveFrom_X2_addFound
set_option maxRecDepth 20000 in
theorem ggX2_reviveFrom_X1_write : GoodIn wsX2_reviveFrom wsX1_write := goodIn_r _ [122, 9, 123, 124, 125, 10, 11, 12, 133, 134, 135, 136, 137] (by decide +kernel) (by decide +kernel)
set_option maxRecDepth 20000 in
theorem gX2_reviveFrom_X1_write : GoodIn wsX2_reviveFrom (wsV RX2 60 RX1 yX1_write wsX1_write) := goodIn_app (goodIn_of _ (by decide +kernel)) ggX2_reviveFrom_X1_write
theorem dX2_reviveFrom_0 : decode cX2_reviveFrom 0 = .ok (.iconst 0, 1) := by decide +kernel
theorem dX2_reviveFrom_1 : decode cX2_reviveFrom 1 = .ok (.istore_n 3, 1) := by decide +kernel
theorem dX2_reviveFrom_2 : decode cX2_reviveFrom 2 = .ok (.iload_n 3, 1) := by decide +kernel
theorem dX2_reviveFrom_3 : decode cX2_reviveFrom 3 = .ok (.iload_n 2, 1) := by decide +kernel
theorem dX2_reviveFrom_4 : decode cX2_reviveFrom 4 = .ok (.if_icmp .ge 87, 3) := by decide +kernel
theorem dX2_reviveFrom_7 : decode cX2_reviveFrom 7 = .ok (.aload_n 0, 1) := by decide +kernel
theorem dX2_reviveFrom_8 : decode cX2_reviveFrom 8 = .ok (.getfield 10, 3) := by decide +kernel
theorem dX2_reviveFrom_11 : decode cX2_reviveFrom 11 = .ok (.iload_n 1, 1) := by decide +kernel
theorem dX2_reviveFrom_12 : decode cX2_reviveFrom 12 = .ok (.iload_n 3, 1) := by decide +kernel
theorem dX2_reviveFrom_13 : decode cX2_reviveFrom 13 = .ok (.iadd, 1) := by decide +kernel
theorem dX2_reviveFrom_14 : decode cX2_reviveFrom 14 = .ok (.invokevirtual 92, 3) := by decide +kernel
theorem dX2_reviveFrom_17 : decode cX2_reviveFrom 17 = .ok (.istore 4, 2) := by decide +kernel
theorem dX2_reviveFrom_19 : decode cX2_reviveFrom 19 = .ok (.aload_n 0, 1) := by decide +kernel
theorem dX2_reviveFrom_20 : decode cX2_reviveFrom 20 = .ok (.iload 4, 2) := by decide +kernel
theorem dX2_reviveFrom_22 : decode cX2_reviveFrom 22 = .ok (.invokevirtual 89, 3) := by decide +kernel
theorem dX2_reviveFrom_25 : decode cX2_reviveFrom 25 = .ok (.ifCond .eq 6, 3) := by decide +kernel
theorem dX2_reviveFrom_28 : decode cX2_reviveFrom 28 = .ok (.goto 57, 3) := by decide +kernel
theorem dX2_reviveFrom_31 : decode cX2_reviveFrom 31 = .ok (.aload_n 0, 1) := by decide +kernel
theorem dX2_reviveFrom_32 : decode cX2_reviveFrom 32 = .ok (.iload 4, 2) := by decide +kernel
theorem dX2_reviveFrom_34 : decode cX2_reviveFrom 34 = .ok (.invokevirtual 219, 3) := by decide +kernel
theorem dX2_reviveFrom_37 : decode cX2_reviveFrom 37 = .ok (.ifCond .eq 27, 3) := by decide +kernel
theorem dX2_reviveFrom_40 : decode cX2_reviveFrom 40 = .ok (.aload_n 0, 1) := by decide +kernel
theorem dX2_reviveFrom_41 : decode cX2_reviveFrom 41 = .ok (.getfield 19, 3) := by decide +kernel
theorem dX2_reviveFrom_44 : decode cX2_reviveFrom 44 = .ok (.iload 4, 2) := by decide +kernel
theorem dX2_reviveFrom_46 : decode cX2_reviveFrom 46 = .ok (.aload_n 0, 1) := by decide +kernel
theorem dX2_reviveFrom_47 : decode cX2_reviveFrom 47 = .ok (.iload 4, 2) := by decide +kernel
theorem dX2_reviveFrom_49 : decode cX2_reviveFrom 49 = .ok (.invokevirtual 126, 3) := by decide +kernel
theorem dX2_reviveFrom_52 : decode cX2_reviveFrom 52 = .ok (.invokevirtual 52, 3) := by decide +kernel
theorem dX2_reviveFrom_55 : decode cX2_reviveFrom 55 = .ok (.aload_n 0, 1) := by decide +kernel
theorem dX2_reviveFrom_56 : decode cX2_reviveFrom 56 = .ok (.iload 4, 2) := by decide +kernel
theorem dX2_reviveFrom_58 : decode cX2_reviveFrom 58 = .ok (.invokevirtual 210, 3) := by decide +kernel
theorem dX2_reviveFrom_61 : decode cX2_reviveFrom 61 = .ok (.goto 24, 3) := by decide +kernel
theorem dX2_reviveFrom_64 : decode cX2_reviveFrom 64 = .ok (.aload_n 0, 1) := by decide +kernel
theorem dX2_reviveFrom_65 : decode cX2_reviveFrom 65 = .ok (.getfield 10, 3) := by decide +kernel
theorem dX2_reviveFrom_68 : decode cX2_reviveFrom 68 = .ok (.iload_n 1, 1) := by decide +kernel
theorem dX2_reviveFrom_69 : decode cX2_reviveFrom 69 = .ok (.iload_n 3, 1) := by decide +kernel
theorem dX2_reviveFrom_70 : decode cX2_reviveFrom 70 = .ok (.iadd, 1) := by decide +kernel
theorem dX2_reviveFrom_71 : decode cX2_reviveFrom 71 = .ok (.iconst 0, 1) := by decide +kernel
theorem dX2_reviveFrom_72 : decode cX2_reviveFrom 72 = .ok (.invokevirtual 60, 3) := by decide +kernel
theorem dX2_reviveFrom_75 : decode cX2_reviveFrom 75 = .ok (.aload_n 0, 1) := by decide +kernel
theorem dX2_reviveFrom_76 : decode cX2_reviveFrom 76 = .ok (.dup, 1) := by decide +kernel
theorem dX2_reviveFrom_77 : decode cX2_reviveFrom 77 = .ok (.getfield 31, 3) := by decide +kernel
theorem dX2_reviveFrom_80 : decode cX2_reviveFrom 80 = .ok (.iconst 1, 1) := by decide +kernel
theorem dX2_reviveFrom_81 : decode cX2_reviveFrom 81 = .ok (.iadd, 1) := by decide +kernel
theorem dX2_reviveFrom_82 : decode cX2_reviveFrom 82 = .ok (.putfield 31, 3) := by decide +kernel
theorem dX2_reviveFrom_85 : decode cX2_reviveFrom 85 = .ok (.iinc 3 1, 3) := by decide +kernel
theorem dX2_reviveFrom_88 : decode cX2_reviveFrom 88 = .ok (.goto (-86), 3) := by decide +kernel
theorem dX2_reviveFrom_91 : decode cX2_reviveFrom 91 = .ok (.return_, 1) := by decide +kernel
set_option maxRecDepth 20000 in
theorem ggX2_canRevive_X2_sizeOf : GoodIn wsX2_canRevive wsX2_sizeOf := goodIn_r _ [7, 1, 8, 9, 10, 11, 12, 13, 14, 6, 15, 16, 17, 18, 75, 76, 77, 78, 79, 80, 81, 82, 83, 84, 85, 86] (by decide +kernel) (by decide +kernel)
set_option maxRecDepth 20000 in
theorem gX2_canRevive_X2_sizeOf : GoodIn wsX2_canRevive (wsV RX2 126 RX2 yX2_sizeOf wsX2_sizeOf) := goodIn_app (goodIn_of _ (by decide +kernel)) ggX2_canRevive_X2_sizeOf
set_option maxRecDepth 20000 in
theorem ggX2_canRevive_X2_refsOf : GoodIn wsX2_canRevive wsX2_refsOf := goodIn_r _ [22, 1, 8, 9, 10, 11, 12, 13, 14, 6, 15, 23, 24, 25, 75, 76, 77, 78, 79, 80, 81, 82, 83, 84, 85, 86] (by decide +kernel) (by decide +kernel)
set_option maxRecDepth 20000 in
theorem gX2_canRevive_X2_refsOf : GoodIn wsX2_canRevive (wsV RX2 83 RX2 yX2_refsOf wsX2_refsOf) := goodIn_app (goodIn_of _ (by decide +kernel)) ggX2_canRevive_X2_refsOf
set_option maxRecDepth 20000 in
theorem ggX2_canRevive_X2_isShape : GoodIn wsX2_canRevive wsX2_isShape := goodIn_r _ [28] (by decide +kernel) (by decide +kernel)
set_option maxRecDepth 20000 in
theorem gX2_canRevive_X2_isShape : GoodIn wsX2_canRevive (va_wsS RX2 40 yX2_isShape wsX2_isShape) := goodIn_app (goodIn_of _ (by decide +kernel)) ggX2_canRevive_X2_isShape
set_option maxRecDepth 20000 in
theorem ggX2_canRevive_X1_at : GoodIn wsX2_canRevive wsX1_at := goodIn_r _ [12, 13, 14, 6, 15, 82, 83, 84, 85, 86] (by decide +kernel) (by decide +kernel)
set_option maxRecDepth 20000 in
theorem gX2_canRevive_X1_at : GoodIn wsX2_canRevive (wsV RX2 92 RX1 yX1_at wsX1_at) := goodIn_app (goodIn_of _ (by decide +kernel)) ggX2_canRevive_X1_at
set_option maxRecDepth 20000 in
theorem ggX2_canRevive_X2_headOf : GoodIn wsX2_canRevive wsX2_headOf := goodIn_r _ [31, 32, 33, 34, 35, 36] (by decide +kernel) (by decide +kernel)
set_option maxRecDepth 20000 in
theorem gX2_canRevive_X2_headOf : GoodIn wsX2_canRevive (va_wsS RX2 56 yX2_headOf wsX2_headOf) := goodIn_app (goodIn_of _ (by decide +kernel)) ggX2_canRevive_X2_headOf
set_option maxRecDepth 20000 in
theorem ggX2_canRevive_X0_canHold : GoodIn wsX2_canRevive wsX0_canHold := goodIn_r _ [41, 42, 43, 40, 44, 45, 6, 46, 47, 48, 49, 50, 51, 52, 53, 54, 55, 56, 57, 58, 59, 60, 61, 62, 63, 64, 65, 66, 67, 68, 69, 70, 71, 72, 73, 74, 87, 88, 89, 90] (by decide +kernel) (by decide +kernel)
set_option maxRecDepth 20000 in
theorem gX2_canRevive_X0_canHold : GoodIn wsX2_canRevive (wsV RX2 222 RX0 yX0_canHold wsX0_canHold) := goodIn_app (goodIn_of _ (by decide +kernel)) ggX2_canRevive_X0_canHold
theorem dX2_canRevive_0 : decode cX2_canRevive 0 = .ok (.iload_n 1, 1) := by decide +kernel
theorem dX2_canRevive_1 : decode cX2_canRevive 1 = .ok (.bipush 16, 2) := by decide +kernel
theorem dX2_canRevive_3 : decode cX2_canRevive 3 = .ok (.if_icmp .lt 10, 3) := by decide +kernel
theorem dX2_canRevive_6 : decode cX2_canRevive 6 = .ok (.iload_n 1, 1) := by decide +kernel
theorem dX2_canRevive_7 : decode cX2_canRevive 7 = .ok (.sipush 4096, 3) := by decide +kernel
theorem dX2_canRevive_10 : decode cX2_canRevive 10 = .ok (.if_icmp .lt 5, 3) := by decide +kernel
theorem dX2_canRevive_13 : decode cX2_canRevive 13 = .ok (.iconst 0, 1) := by decide +kernel
theorem dX2_canRevive_14 : decode cX2_canRevive 14 = .ok (.ireturn, 1) := by decide +kernel
theorem dX2_canRevive_15 : decode cX2_canRevive 15 = .ok (.aload_n 0, 1) := by decide +kernel
theorem dX2_canRevive_16 : decode cX2_canRevive 16 = .ok (.iload_n 1, 1) := by decide +kernel
theorem dX2_canRevive_17 : decode cX2_canRevive 17 = .ok (.invokevirtual 126, 3) := by decide +kernel
theorem dX2_canRevive_20 : decode cX2_canRevive 20 = .ok (.istore_n 2, 1) := by decide +kernel
theorem dX2_canRevive_21 : decode cX2_canRevive 21 = .ok (.aload_n 0, 1) := by decide +kernel
theorem dX2_canRevive_22 : decode cX2_canRevive 22 = .ok (.iload_n 1, 1) := by decide +kernel
theorem dX2_canRevive_23 : decode cX2_canRevive 23 = .ok (.invokevirtual 83, 3) := by decide +kernel
theorem dX2_canRevive_26 : decode cX2_canRevive 26 = .ok (.istore_n 3, 1) := by decide +kernel
theorem dX2_canRevive_27 : decode cX2_canRevive 27 = .ok (.iload_n 2, 1) := by decide +kernel
theorem dX2_canRevive_28 : decode cX2_canRevive 28 = .ok (.iload_n 3, 1) := by decide +kernel
theorem dX2_canRevive_29 : decode cX2_canRevive 29 = .ok (.invokestatic 40, 3) := by decide +kernel
theorem dX2_canRevive_32 : decode cX2_canRevive 32 = .ok (.ifCond .eq 36, 3) := by decide +kernel
theorem dX2_canRevive_35 : decode cX2_canRevive 35 = .ok (.aload_n 0, 1) := by decide +kernel
theorem dX2_canRevive_36 : decode cX2_canRevive 36 = .ok (.getfield 10, 3) := by decide +kernel
theorem dX2_canRevive_39 : decode cX2_canRevive 39 = .ok (.iload_n 1, 1) := by decide +kernel
theorem dX2_canRevive_40 : decode cX2_canRevive 40 = .ok (.invokevirtual 92, 3) := by decide +kernel
theorem dX2_canRevive_43 : decode cX2_canRevive 43 = .ok (.iload_n 1, 1) := by decide +kernel
theorem dX2_canRevive_44 : decode cX2_canRevive 44 = .ok (.iload_n 2, 1) := by decide +kernel
theorem dX2_canRevive_45 : decode cX2_canRevive 45 = .ok (.iload_n 3, 1) := by decide +kernel
theorem dX2_canRevive_46 : decode cX2_canRevive 46 = .ok (.invokestatic 56, 3) := by decide +kernel
theorem dX2_canRevive_49 : decode cX2_canRevive 49 = .ok (.if_icmp .ne 19, 3) := by decide +kernel
theorem dX2_canRevive_52 : decode cX2_canRevive 52 = .ok (.aload_n 0, 1) := by decide +kernel
theorem dX2_canRevive_53 : decode cX2_canRevive 53 = .ok (.getfield 19, 3) := by decide +kernel
theorem dX2_canRevive_56 : decode cX2_canRevive 56 = .ok (.iload_n 1, 1) := by decide +kernel
theorem dX2_canRevive_57 : decode cX2_canRevive 57 = .ok (.iload_n 2, 1) := by decide +kernel
theorem dX2_canRevive_58 : decode cX2_canRevive 58 = .ok (.invokevirtual 222, 3) := by decide +kernel
theorem dX2_canRevive_61 : decode cX2_canRevive 61 = .ok (.ifCond .eq 7, 3) := by decide +kernel
theorem dX2_canRevive_64 : decode cX2_canRevive 64 = .ok (.iconst 1, 1) := by decide +kernel
theorem dX2_canRevive_65 : decode cX2_canRevive 65 = .ok (.goto 4, 3) := by decide +kernel
theorem dX2_canRevive_68 : decode cX2_canRevive 68 = .ok (.iconst 0, 1) := by decide +kernel
theorem dX2_canRevive_69 : decode cX2_canRevive 69 = .ok (.ireturn, 1) := by decide +kernel
theorem dJ6_bitCount_0f7a4_0 : decode cJ6_bitCount_0f7a4 0 = .ok (.iload_n 0, 1) := by decide +kernel
theorem dJ6_bitCount_0f7a4_1 : decode cJ6_bitCount_0f7a4 1 = .ok (.iload_n 0, 1) := by decide +kernel
theorem dJ6_bitCount_0f7a4_2 : decode cJ6_bitCount_0f7a4 2 = .ok (.iconst 1, 1) := by decide +kernel
theorem dJ6_bitCount_0f7a4_3 : decode cJ6_bitCount_0f7a4 3 = .ok (.iushr, 1) := by decide +kernel
theorem dJ6_bitCount_0f7a4_4 : decode cJ6_bitCount_0f7a4 4 = .ok (.ldc_w 265, 3) := by decide +kernel
theorem dJ6_bitCount_0f7a4_7 : decode cJ6_bitCount_0f7a4 7 = .ok (.iand, 1) := by decide +kernel
theorem dJ6_bitCount_0f7a4_8 : decode cJ6_bitCount_0f7a4 8 = .ok (.isub, 1) := by decide +kernel
theorem dJ6_bitCount_0f7a4_9 : decode cJ6_bitCount_0f7a4 9 = .ok (.istore_n 0, 1) := by decide +kernel
theorem dJ6_bitCount_0f7a4_10 : decode cJ6_bitCount_0f7a4 10 = .ok (.iload_n 0, 1) := by decide +kernel
theorem dJ6_bitCount_0f7a4_11 : decode cJ6_bitCount_0f7a4 11 = .ok (.ldc_w 266, 3) := by decide +kernel
theorem dJ6_bitCount_0f7a4_14 : decode cJ6_bitCount_0f7a4 14 = .ok (.iand, 1) := by decide +kernel
theorem dJ6_bitCount_0f7a4_15 : decode cJ6_bitCount_0f7a4 15 = .ok (.iload_n 0, 1) := by decide +kernel
theorem dJ6_bitCount_0f7a4_16 : decode cJ6_bitCount_0f7a4 16 = .ok (.iconst 2, 1) := by decide +kernel
theorem dJ6_bitCount_0f7a4_17 : decode cJ6_bitCount_0f7a4 17 = .ok (.iushr, 1) := by decide +kernel
theorem dJ6_bitCount_0f7a4_18 : decode cJ6_bitCount_0f7a4 18 = .ok (.ldc_w 266, 3) := by decide +kernel
theorem dJ6_bitCount_0f7a4_21 : decode cJ6_bitCount_0f7a4 21 = .ok (.iand, 1) := by decide +kernel
theorem dJ6_bitCount_0f7a4_22 : decode cJ6_bitCount_0f7a4 22 = .ok (.iadd, 1) := by decide +kernel
theorem dJ6_bitCount_0f7a4_23 : decode cJ6_bitCount_0f7a4 23 = .ok (.istore_n 0, 1) := by decide +kernel
theorem dJ6_bitCount_0f7a4_24 : decode cJ6_bitCount_0f7a4 24 = .ok (.iload_n 0, 1) := by decide +kernel
theorem dJ6_bitCount_0f7a4_25 : decode cJ6_bitCount_0f7a4 25 = .ok (.iload_n 0, 1) := by decide +kernel
theorem dJ6_bitCount_0f7a4_26 : decode cJ6_bitCount_0f7a4 26 = .ok (.iconst 4, 1) := by decide +kernel
theorem dJ6_bitCount_0f7a4_27 : decode cJ6_bitCount_0f7a4 27 = .ok (.iushr, 1) := by decide +kernel
theorem dJ6_bitCount_0f7a4_28 : decode cJ6_bitCount_0f7a4 28 = .ok (.iadd, 1) := by decide +kernel
theorem dJ6_bitCount_0f7a4_29 : decode cJ6_bitCount_0f7a4 29 = .ok (.ldc_w 267, 3) := by decide +kernel
theorem dJ6_bitCount_0f7a4_32 : decode cJ6_bitCount_0f7a4 32 = .ok (.iand, 1) := by decide +kernel
theorem dJ6_bitCount_0f7a4_33 : decode cJ6_bitCount_0f7a4 33 = .ok (.istore_n 0, 1) := by decide +kernel
theorem dJ6_bitCount_0f7a4_34 : decode cJ6_bitCount_0f7a4 34 = .ok (.iload_n 0, 1) := by decide +kernel
theorem dJ6_bitCount_0f7a4_35 : decode cJ6_bitCount_0f7a4 35 = .ok (.iload_n 0, 1) := by decide +kernel
theorem dJ6_bitCount_0f7a4_36 : decode cJ6_bitCount_0f7a4 36 = .ok (.bipush 8, 2) := by decide +kernel
theorem dJ6_bitCount_0f7a4_38 : decode cJ6_bitCount_0f7a4 38 = .ok (.iushr, 1) := by decide +kernel
theorem dJ6_bitCount_0f7a4_39 : decode cJ6_bitCount_0f7a4 39 = .ok (.iadd, 1) := by decide +kernel
theorem dJ6_bitCount_0f7a4_40 : decode cJ6_bitCount_0f7a4 40 = .ok (.istore_n 0, 1) := by decide +kernel
theorem dJ6_bitCount_0f7a4_41 : decode cJ6_bitCount_0f7a4 41 = .ok (.iload_n 0, 1) := by decide +kernel
theorem dJ6_bitCount_0f7a4_42 : decode cJ6_bitCount_0f7a4 42 = .ok (.iload_n 0, 1) := by decide +kernel
theorem dJ6_bitCount_0f7a4_43 : decode cJ6_bitCount_0f7a4 43 = .ok (.bipush 16, 2) := by decide +kernel
theorem dJ6_bitCount_0f7a4_45 : decode cJ6_bitCount_0f7a4 45 = .ok (.iushr, 1) := by decide +kernel
theorem dJ6_bitCount_0f7a4_46 : decode cJ6_bitCount_0f7a4 46 = .ok (.iadd, 1) := by decide +kernel
theorem dJ6_bitCount_0f7a4_47 : decode cJ6_bitCount_0f7a4 47 = .ok (.istore_n 0, 1) := by decide +kernel
theorem dJ6_bitCount_0f7a4_48 : decode cJ6_bitCount_0f7a4 48 = .ok (.iload_n 0, 1) := by decide +kernel
theorem dJ6_bitCount_0f7a4_49 : decode cJ6_bitCount_0f7a4 49 = .ok (.bipush 63, 2) := by decide +kernel
theorem dJ6_bitCount_0f7a4_51 : decode cJ6_bitCount_0f7a4 51 = .ok (.iand, 1) := by decide +kernel
theorem dJ6_bitCount_0f7a4_52 : decode cJ6_bitCount_0f7a4 52 = .ok (.ireturn, 1) := by decide +kernel
theorem dJ9_floorMod_7cf53_0 : decode cJ9_floorMod_7cf53 0 = .ok (.iload_n 0, 1) := by decide +kernel
theorem dJ9_floorMod_7cf53_1 : decode cJ9_floorMod_7cf53 1 = .ok (.iload_n 1, 1) := by decide +kernel
theorem dJ9_floorMod_7cf53_2 : decode cJ9_floorMod_7cf53 2 = .ok (.irem, 1) := by decide +kernel
theorem dJ9_floorMod_7cf53_3 : decode cJ9_floorMod_7cf53 3 = .ok (.istore_n 2, 1) := by decide +kernel
theorem dJ9_floorMod_7cf53_4 : decode cJ9_floorMod_7cf53 4 = .ok (.iload_n 0, 1) := by decide +kernel
theorem dJ9_floorMod_7cf53_5 : decode cJ9_floorMod_7cf53 5 = .ok (.iload_n 1, 1) := by decide +kernel
theorem dJ9_floorMod_7cf53_6 : decode cJ9_floorMod_7cf53 6 = .ok (.ixor, 1) := by decide +kernel
theorem dJ9_floorMod_7cf53_7 : decode cJ9_floorMod_7cf53 7 = .ok (.ifCond .ge 11, 3) := by decide +kernel
theorem dJ9_floorMod_7cf53_10 : decode cJ9_floorMod_7cf53 10 = .ok (.iload_n 2, 1) := by decide +kernel
theorem dJ9_floorMod_7cf53_11 : decode cJ9_floorMod_7cf53 11 = .ok (.ifCond .eq 7, 3) := by decide +kernel
theorem dJ9_floorMod_7cf53_14 : decode cJ9_floorMod_7cf53 14 = .ok (.iload_n 2, 1) := by decide +kernel
theorem dJ9_floorMod_7cf53_15 : decode cJ9_floorMod_7cf53 15 = .ok (.iload_n 1, 1) := by decide +kernel
theorem dJ9_floorMod_7cf53_16 : decode cJ9_floorMod_7cf53 16 = .ok (.iadd, 1) := by decide +kernel
theorem dJ9_floorMod_7cf53_17 : decode cJ9_floorMod_7cf53 17 = .ok (.ireturn, 1) := by decide +kernel
theorem dJ9_floorMod_7cf53_18 : decode cJ9_floorMod_7cf53 18 = .ok (.iload_n 2, 1) := by decide +kernel
theorem dJ9_floorMod_7cf53_19 : decode cJ9_floorMod_7cf53 19 = .ok (.ireturn, 1) := by decide +kernel
theorem dJ7_fill_53178_0 : decode cJ7_fill_53178 0 = .ok (.iconst 0, 1) := by decide +kernel
theorem dJ7_fill_53178_1 : decode cJ7_fill_53178 1 = .ok (.istore_n 2, 1) := by decide +kernel
theorem dJ7_fill_53178_2 : decode cJ7_fill_53178 2 = .ok (.aload_n 0, 1) := by decide +kernel
theorem dJ7_fill_53178_3 : decode cJ7_fill_53178 3 = .ok (.arraylength, 1) := by decide +kernel
theorem dJ7_fill_53178_4 : decode cJ7_fill_53178 4 = .ok (.istore_n 3, 1) := by decide +kernel
theorem dJ7_fill_53178_5 : decode cJ7_fill_53178 5 = .ok (.iload_n 2, 1) := by decide +kernel
theorem dJ7_fill_53178_6 : decode cJ7_fill_53178 6 = .ok (.iload_n 3, 1) := by decide +kernel
theorem dJ7_fill_53178_7 : decode cJ7_fill_53178 7 = .ok (.if_icmp .ge 13, 3) := by decide +kernel
theorem dJ7_fill_53178_10 : decode cJ7_fill_53178 10 = .ok (.aload_n 0, 1) := by decide +kernel
theorem dJ7_fill_53178_11 : decode cJ7_fill_53178 11 = .ok (.iload_n 2, 1) := by decide +kernel
theorem dJ7_fill_53178_12 : decode cJ7_fill_53178 12 = .ok (.iload_n 1, 1) := by decide +kernel
theorem dJ7_fill_53178_13 : decode cJ7_fill_53178 13 = .ok (.iastore, 1) := by decide +kernel
theorem dJ7_fill_53178_14 : decode cJ7_fill_53178 14 = .ok (.iinc 2 1, 3) := by decide +kernel
theorem dJ7_fill_53178_17 : decode cJ7_fill_53178 17 = .ok (.goto (-12), 3) := by decide +kernel
theorem dJ7_fill_53178_20 : decode cJ7_fill_53178 20 = .ok (.return_, 1) := by decide +kernel
