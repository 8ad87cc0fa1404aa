theorem dX3_init_0 : decode cX3_init 0 = .ok (.aload_n 0, 1) := by decide +kernel
theorem dX3_init_1 : decode cX3_init 1 = .ok (.invokespecial 1, 3) := by decide +kernel
theorem dX3_init_4 : decode cX3_init 4 = .ok (.aload_n 0, 1) := by decide +kernel
theorem dX3_init_5 : decode cX3_init 5 = .ok (.sipush 4096, 3) := by decide +kernel
theorem dX3_init_8 : decode cX3_init 8 = .ok (.newarray .int, 2) := by decide +kernel
theorem dX3_init_10 : decode cX3_init 10 = .ok (.putfield 7, 3) := by decide +kernel
theorem dX3_init_13 : decode cX3_init 13 = .ok (.aload_n 0, 1) := by decide +kernel
theorem dX3_init_14 : decode cX3_init 14 = .ok (.sipush 4096, 3) := by decide +kernel
theorem dX3_init_17 : decode cX3_init 17 = .ok (.newarray .int, 2) := by decide +kernel
theorem dX3_init_19 : decode cX3_init 19 = .ok (.putfield 13, 3) := by decide +kernel
theorem dX3_init_22 : decode cX3_init 22 = .ok (.aload_n 0, 1) := by decide +kernel
theorem dX3_init_23 : decode cX3_init 23 = .ok (.sipush 4096, 3) := by decide +kernel
theorem dX3_init_26 : decode cX3_init 26 = .ok (.newarray .boolean, 2) := by decide +kernel
theorem dX3_init_28 : decode cX3_init 28 = .ok (.putfield 16, 3) := by decide +kernel
theorem dX3_init_31 : decode cX3_init 31 = .ok (.aload_n 0, 1) := by decide +kernel
theorem dX3_init_32 : decode cX3_init 32 = .ok (.sipush 512, 3) := by decide +kernel
theorem dX3_init_35 : decode cX3_init 35 = .ok (.newarray .boolean, 2) := by decide +kernel
theorem dX3_init_37 : decode cX3_init 37 = .ok (.putfield 20, 3) := by decide +kernel
theorem dX3_init_40 : decode cX3_init 40 = .ok (.aload_n 0, 1) := by decide +kernel
theorem dX3_init_41 : decode cX3_init 41 = .ok (.sipush 512, 3) := by decide +kernel
theorem dX3_init_44 : decode cX3_init 44 = .ok (.newarray .int, 2) := by decide +kernel
theorem dX3_init_46 : decode cX3_init 46 = .ok (.putfield 23, 3) := by decide +kernel
theorem dX3_init_49 : decode cX3_init 49 = .ok (.aload_n 0, 1) := by decide +kernel
theorem dX3_init_50 : decode cX3_init 50 = .ok (.sipush 256, 3) := by decide +kernel
theorem dX3_init_53 : decode cX3_init 53 = .ok (.newarray .int, 2) := by decide +kernel
theorem dX3_init_55 : decode cX3_init 55 = .ok (.putfield 26, 3) := by decide +kernel
theorem dX3_init_58 : decode cX3_init 58 = .ok (.aload_n 0, 1) := by decide +kernel
theorem dX3_init_59 : decode cX3_init 59 = .ok (.sipush 256, 3) := by decide +kernel
theorem dX3_init_62 : decode cX3_init 62 = .ok (.newarray .int, 2) := by decide +kernel
theorem dX3_init_64 : decode cX3_init 64 = .ok (.putfield 29, 3) := by decide +kernel
theorem dX3_init_67 : decode cX3_init 67 = .ok (.aload_n 0, 1) := by decide +kernel
theorem dX3_init_68 : decode cX3_init 68 = .ok (.sipush 256, 3) := by decide +kernel
theorem dX3_init_71 : decode cX3_init 71 = .ok (.newarray .int, 2) := by decide +kernel
theorem dX3_init_73 : decode cX3_init 73 = .ok (.putfield 32, 3) := by decide +kernel
theorem dX3_init_76 : decode cX3_init 76 = .ok (.aload_n 0, 1) := by decide +kernel
theorem dX3_init_77 : decode cX3_init 77 = .ok (.sipush 256, 3) := by decide +kernel
theorem dX3_init_80 : decode cX3_init 80 = .ok (.newarray .int, 2) := by decide +kernel
theorem dX3_init_82 : decode cX3_init 82 = .ok (.putfield 35, 3) := by decide +kernel
theorem dX3_init_85 : decode cX3_init 85 = .ok (.aload_n 0, 1) := by decide +kernel
theorem dX3_init_86 : decode cX3_init 86 = .ok (.sipush 256, 3) := by decide +kernel
theorem dX3_init_89 : decode cX3_init 89 = .ok (.newarray .int, 2) := by decide +kernel
theorem dX3_init_91 : decode cX3_init 91 = .ok (.putfield 38, 3) := by decide +kernel
theorem dX3_init_94 : decode cX3_init 94 = .ok (.aload_n 0, 1) := by decide +kernel
theorem dX3_init_95 : decode cX3_init 95 = .ok (.sipush 2048, 3) := by decide +kernel
theorem dX3_init_98 : decode cX3_init 98 = .ok (.newarray .int, 2) := by decide +kernel
theorem dX3_init_100 : decode cX3_init 100 = .ok (.putfield 41, 3) := by decide +kernel
theorem dX3_init_103 : decode cX3_init 103 = .ok (.aload_n 0, 1) := by decide +kernel
theorem dX3_init_104 : decode cX3_init 104 = .ok (.sipush 4096, 3) := by decide +kernel
theorem dX3_init_107 : decode cX3_init 107 = .ok (.newarray .boolean, 2) := by decide +kernel
theorem dX3_init_109 : decode cX3_init 109 = .ok (.putfield 44, 3) := by decide +kernel
theorem dX3_init_112 : decode cX3_init 112 = .ok (.return_, 1) := by decide +kernel
theorem dX3_no_0 : decode cX3_no 0 = .ok (.aload_n 0, 1) := by decide +kernel
theorem dX3_no_1 : decode cX3_no 1 = .ok (.iload_n 1, 1) := by decide +kernel
theorem dX3_no_2 : decode cX3_no 2 = .ok (.putfield 51, 3) := by decide +kernel
theorem dX3_no_5 : decode cX3_no 5 = .ok (.iconst (-1), 1) := by decide +kernel
theorem dX3_no_6 : decode cX3_no 6 = .ok (.ireturn, 1) := by decide +kernel
theorem dX3_not_0 : decode cX3_not 0 = .ok (.aload_n 0, 1) := by decide +kernel
theorem dX3_not_1 : decode cX3_not 1 = .ok (.iload_n 1, 1) := by decide +kernel
theorem dX3_not_2 : decode cX3_not 2 = .ok (.putfield 51, 3) := by decide +kernel
theorem dX3_not_5 : decode cX3_not 5 = .ok (.iconst 0, 1) := by decide +kernel
theorem dX3_not_6 : decode cX3_not 6 = .ok (.ireturn, 1) := by decide +kernel
theorem dX3_is_0 : decode cX3_is 0 = .ok (.iload_n 1, 1) := by decide +kernel
theorem dX3_is_1 : decode cX3_is 1 = .ok (.iload_n 2, 1) := by decide +kernel
theorem dX3_is_2 : decode cX3_is 2 = .ok (.if_icmp .lt 12, 3) := by decide +kernel
theorem dX3_is_5 : decode cX3_is 5 = .ok (.iload_n 1, 1) := by decide +kernel
theorem dX3_is_6 : decode cX3_is 6 = .ok (.iload_n 3, 1) := by decide +kernel
theorem dX3_is_7 : decode cX3_is 7 = .ok (.if_icmp .gt 7, 3) := by decide +kernel
theorem dX3_is_10 : decode cX3_is 10 = .ok (.iconst 1, 1) := by decide +kernel
theorem dX3_is_11 : decode cX3_is 11 = .ok (.goto 4, 3) := by decide +kernel
theorem dX3_is_14 : decode cX3_is 14 = .ok (.iconst 0, 1) := by decide +kernel
theorem dX3_is_15 : decode cX3_is 15 = .ok (.ireturn, 1) := by decide +kernel
theorem dX3_write_0 : decode cX3_write 0 = .ok (.aload_n 0, 1) := by decide +kernel
theorem dX3_write_1 : decode cX3_write 1 = .ok (.getfield 7, 3) := by decide +kernel
theorem dX3_write_4 : decode cX3_write 4 = .ok (.iload_n 1, 1) := by decide +kernel
theorem dX3_write_5 : decode cX3_write 5 = .ok (.iload_n 2, 1) := by decide +kernel
theorem dX3_write_6 : decode cX3_write 6 = .ok (.iastore, 1) := by decide +kernel
theorem dX3_write_7 : decode cX3_write 7 = .ok (.iload_n 1, 1) := by decide +kernel
theorem dX3_write_8 : decode cX3_write 8 = .ok (.bipush 8, 2) := by decide +kernel
theorem dX3_write_10 : decode cX3_write 10 = .ok (.idiv, 1) := by decide +kernel
theorem dX3_write_11 : decode cX3_write 11 = .ok (.istore_n 3, 1) := by decide +kernel
theorem dX3_write_12 : decode cX3_write 12 = .ok (.aload_n 0, 1) := by decide +kernel
theorem dX3_write_13 : decode cX3_write 13 = .ok (.getfield 20, 3) := by decide +kernel
theorem dX3_write_16 : decode cX3_write 16 = .ok (.iload_n 3, 1) := by decide +kernel
theorem dX3_write_17 : decode cX3_write 17 = .ok (.baload, 1) := by decide +kernel
theorem dX3_write_18 : decode cX3_write 18 = .ok (.ifCond .eq 4, 3) := by decide +kernel
theorem dX3_write_21 : decode cX3_write 21 = .ok (.return_, 1) := by decide +kernel
theorem dX3_write_22 : decode cX3_write 22 = .ok (.aload_n 0, 1) := by decide +kernel
theorem dX3_write_23 : decode cX3_write 23 = .ok (.getfield 20, 3) := by decide +kernel
theorem dX3_write_26 : decode cX3_write 26 = .ok (.iload_n 3, 1) := by decide +kernel
theorem dX3_write_27 : decode cX3_write 27 = .ok (.iconst 1, 1) := by decide +kernel
theorem dX3_write_28 : decode cX3_write 28 = .ok (.bastore, 1) := by decide +kernel
theorem dX3_write_29 : decode cX3_write 29 = .ok (.aload_n 0, 1) := by decide +kernel
theorem dX3_write_30 : decode cX3_write 30 = .ok (.getfield 23, 3) := by decide +kernel
theorem dX3_write_33 : decode cX3_write 33 = .ok (.aload_n 0, 1) := by decide +kernel
theorem dX3_write_34 : decode cX3_write 34 = .ok (.getfield 54, 3) := by decide +kernel
theorem dX3_write_37 : decode cX3_write 37 = .ok (.iload_n 3, 1) := by decide +kernel
theorem dX3_write_38 : decode cX3_write 38 = .ok (.iastore, 1) := by decide +kernel
theorem dX3_write_39 : decode cX3_write 39 = .ok (.aload_n 0, 1) := by decide +kernel
theorem dX3_write_40 : decode cX3_write 40 = .ok (.dup, 1) := by decide +kernel
theorem dX3_write_41 : decode cX3_write 41 = .ok (.getfield 54, 3) := by decide +kernel
theorem dX3_write_44 : decode cX3_write 44 = .ok (.iconst 1, 1) := by decide +kernel
theorem dX3_write_45 : decode cX3_write 45 = .ok (.iadd, 1) := by decide +kernel
theorem dX3_write_46 : decode cX3_write 46 = .ok (.putfield 54, 3) := by decide +kernel
theorem dX3_write_49 : decode cX3_write 49 = .ok (.return_, 1) := by decide +kernel
theorem dX3_headOf_0 : decode cX3_headOf 0 = .ok (.bipush 31, 2) := by decide +kernel
theorem dX3_headOf_2 : decode cX3_headOf 2 = .ok (.iload_n 1, 1) := by decide +kernel
theorem dX3_headOf_3 : decode cX3_headOf 3 = .ok (.imul, 1) := by decide +kernel
theorem dX3_headOf_4 : decode cX3_headOf 4 = .ok (.bipush 7, 2) := by decide +kernel
theorem dX3_headOf_6 : decode cX3_headOf 6 = .ok (.iload_n 2, 1) := by decide +kernel
theorem dX3_headOf_7 : decode cX3_headOf 7 = .ok (.imul, 1) := by decide +kernel
theorem dX3_headOf_8 : decode cX3_headOf 8 = .ok (.iadd, 1) := by decide +kernel
theorem dX3_headOf_9 : decode cX3_headOf 9 = .ok (.bipush 13, 2) := by decide +kernel
theorem dX3_headOf_11 : decode cX3_headOf 11 = .ok (.iload_n 3, 1) := by decide +kernel
theorem dX3_headOf_12 : decode cX3_headOf 12 = .ok (.imul, 1) := by decide +kernel
theorem dX3_headOf_13 : decode cX3_headOf 13 = .ok (.iadd, 1) := by decide +kernel
theorem dX3_headOf_14 : decode cX3_headOf 14 = .ok (.bipush 90, 2) := by decide +kernel
theorem dX3_headOf_16 : decode cX3_headOf 16 = .ok (.iadd, 1) := by decide +kernel
theorem dX3_headOf_17 : decode cX3_headOf 17 = .ok (.sipush 512, 3) := by decide +kernel
theorem dX3_headOf_20 : decode cX3_headOf 20 = .ok (.irem, 1) := by decide +kernel
theorem dX3_headOf_21 : decode cX3_headOf 21 = .ok (.iconst 1, 1) := by decide +kernel
theorem dX3_headOf_22 : decode cX3_headOf 22 = .ok (.iadd, 1) := by decide +kernel
theorem dX3_headOf_23 : decode cX3_headOf 23 = .ok (.istore 4, 2) := by decide +kernel
theorem dX3_headOf_25 : decode cX3_headOf 25 = .ok (.iload 4, 2) := by decide +kernel
theorem dX3_headOf_27 : decode cX3_headOf 27 = .ok (.ldc 57, 2) := by decide +kernel
theorem dX3_headOf_29 : decode cX3_headOf 29 = .ok (.imul, 1) := by decide +kernel
theorem dX3_headOf_30 : decode cX3_headOf 30 = .ok (.iload_n 2, 1) := by decide +kernel
theorem dX3_headOf_31 : decode cX3_headOf 31 = .ok (.sipush 2048, 3) := by decide +kernel
theorem dX3_headOf_34 : decode cX3_headOf 34 = .ok (.imul, 1) := by decide +kernel
theorem dX3_headOf_35 : decode cX3_headOf 35 = .ok (.iadd, 1) := by decide +kernel
theorem dX3_headOf_36 : decode cX3_headOf 36 = .ok (.iload_n 3, 1) := by decide +kernel
theorem dX3_headOf_37 : decode cX3_headOf 37 = .ok (.iadd, 1) := by decide +kernel
theorem dX3_headOf_38 : decode cX3_headOf 38 = .ok (.ireturn, 1) := by decide +kernel
theorem dX3_sizeAt_0 : decode cX3_sizeAt 0 = .ok (.aload_n 0, 1) := by decide +kernel
theorem dX3_sizeAt_1 : decode cX3_sizeAt 1 = .ok (.getfield 7, 3) := by decide +kernel
theorem dX3_sizeAt_4 : decode cX3_sizeAt 4 = .ok (.iload_n 1, 1) := by decide +kernel
theorem dX3_sizeAt_5 : decode cX3_sizeAt 5 = .ok (.iaload, 1) := by decide +kernel
theorem dX3_sizeAt_6 : decode cX3_sizeAt 6 = .ok (.bipush 11, 2) := by decide +kernel
theorem dX3_sizeAt_8 : decode cX3_sizeAt 8 = .ok (.ishr, 1) := by decide +kernel
theorem dX3_sizeAt_9 : decode cX3_sizeAt 9 = .ok (.sipush 2047, 3) := by decide +kernel
theorem dX3_sizeAt_12 : decode cX3_sizeAt 12 = .ok (.iand, 1) := by decide +kernel
theorem dX3_sizeAt_13 : decode cX3_sizeAt 13 = .ok (.ireturn, 1) := by decide +kernel
theorem dX3_refsAt_0 : decode cX3_refsAt 0 = .ok (.aload_n 0, 1) := by decide +kernel
theorem dX3_refsAt_1 : decode cX3_refsAt 1 = .ok (.getfield 7, 3) := by decide +kernel
theorem dX3_refsAt_4 : decode cX3_refsAt 4 = .ok (.iload_n 1, 1) := by decide +kernel
theorem dX3_refsAt_5 : decode cX3_refsAt 5 = .ok (.iaload, 1) := by decide +kernel
theorem dX3_refsAt_6 : decode cX3_refsAt 6 = .ok (.sipush 2047, 3) := by decide +kernel
theorem dX3_refsAt_9 : decode cX3_refsAt 9 = .ok (.iand, 1) := by decide +kernel
theorem dX3_refsAt_10 : decode cX3_refsAt 10 = .ok (.ireturn, 1) := by decide +kernel
set_option maxRecDepth 20000 in
theorem ggX3_isHead_X3_sizeAt : GoodIn wsX3_isHead wsX3_sizeAt := goodIn_r _ [6, 1, 16, 17, 18, 19, 20, 21, 22, 23, 24, 25, 26, 27, 28, 29, 30, 31, 32, 33] (by decide +kernel) (by decide +kernel)
set_option maxRecDepth 20000 in
theorem gX3_isHead_X3_sizeAt : GoodIn wsX3_isHead (wsV RX3 58 RX3 yX3_sizeAt wsX3_sizeAt) := goodIn_app (goodIn_of _ (by decide +kernel)) ggX3_isHead_X3_sizeAt
set_option maxRecDepth 20000 in
theorem ggX3_isHead_X3_refsAt : GoodIn wsX3_isHead wsX3_refsAt := goodIn_r _ [10, 1, 16, 17, 18, 19, 20, 21, 22, 23, 24, 25, 26, 27, 28, 29, 30, 31, 32, 33] (by decide +kernel) (by decide +kernel)
set_option maxRecDepth 20000 in
theorem gX3_isHead_X3_refsAt : GoodIn wsX3_isHead (wsV RX3 62 RX3 yX3_refsAt wsX3_refsAt) := goodIn_app (goodIn_of _ (by decide +kernel)) ggX3_isHead_X3_refsAt
set_option maxRecDepth 20000 in
theorem ggX3_isHead_X3_headOf : GoodIn wsX3_isHead wsX3_headOf := goodIn_r _ [14, 15] (by decide +kernel) (by decide +kernel)
set_option maxRecDepth 20000 in
theorem gX3_isHead_X3_headOf : GoodIn wsX3_isHead (wsV RX3 65 RX3 yX3_headOf wsX3_headOf) := goodIn_app (goodIn_of _ (by decide +kernel)) ggX3_isHead_X3_headOf
theorem dX3_isHead_0 : decode cX3_isHead 0 = .ok (.aload_n 0, 1) := by decide +kernel
theorem dX3_isHead_1 : decode cX3_isHead 1 = .ok (.iload_n 1, 1) := by decide +kernel
theorem dX3_isHead_2 : decode cX3_isHead 2 = .ok (.invokevirtual 58, 3) := by decide +kernel
theorem dX3_isHead_5 : decode cX3_isHead 5 = .ok (.istore_n 2, 1) := by decide +kernel
theorem dX3_isHead_6 : decode cX3_isHead 6 = .ok (.aload_n 0, 1) := by decide +kernel
theorem dX3_isHead_7 : decode cX3_isHead 7 = .ok (.iload_n 1, 1) := by decide +kernel
theorem dX3_isHead_8 : decode cX3_isHead 8 = .ok (.invokevirtual 62, 3) := by decide +kernel
theorem dX3_isHead_11 : decode cX3_isHead 11 = .ok (.istore_n 3, 1) := by decide +kernel
theorem dX3_isHead_12 : decode cX3_isHead 12 = .ok (.iload_n 2, 1) := by decide +kernel
theorem dX3_isHead_13 : decode cX3_isHead 13 = .ok (.ifCond .le 28, 3) := by decide +kernel
theorem dX3_isHead_16 : decode cX3_isHead 16 = .ok (.iload_n 3, 1) := by decide +kernel
theorem dX3_isHead_17 : decode cX3_isHead 17 = .ok (.iload_n 2, 1) := by decide +kernel
theorem dX3_isHead_18 : decode cX3_isHead 18 = .ok (.if_icmp .gt 23, 3) := by decide +kernel
theorem dX3_isHead_21 : decode cX3_isHead 21 = .ok (.aload_n 0, 1) := by decide +kernel
theorem dX3_isHead_22 : decode cX3_isHead 22 = .ok (.getfield 7, 3) := by decide +kernel
theorem dX3_isHead_25 : decode cX3_isHead 25 = .ok (.iload_n 1, 1) := by decide +kernel
theorem dX3_isHead_26 : decode cX3_isHead 26 = .ok (.iaload, 1) := by decide +kernel
theorem dX3_isHead_27 : decode cX3_isHead 27 = .ok (.aload_n 0, 1) := by decide +kernel
theorem dX3_isHead_28 : decode cX3_isHead 28 = .ok (.iload_n 1, 1) := by decide +kernel
theorem dX3_isHead_29 : decode cX3_isHead 29 = .ok (.iload_n 2, 1) := by decide +kernel
theorem dX3_isHead_30 : decode cX3_isHead 30 = .ok (.iload_n 3, 1) := by decide +kernel
theorem dX3_isHead_31 : decode cX3_isHead 31 = .ok (.invokevirtual 65, 3) := by decide +kernel
theorem dX3_isHead_34 : decode cX3_isHead 34 = .ok (.if_icmp .ne 7, 3) := by decide +kernel
theorem dX3_isHead_37 : decode cX3_isHead 37 = .ok (.iconst 1, 1) := by decide +kernel
theorem dX3_isHead_38 : decode cX3_isHead 38 = .ok (.goto 4, 3) := by decide +kernel
theorem dX3_isHead_41 : decode cX3_isHead 41 = .ok (.iconst 0, 1) := by decide +kernel
theorem dX3_isHead_42 : decode cX3_isHead 42 = .ok (.ireturn, 1) := by decide +kernel
theorem dX3_classOf_0 : decode cX3_classOf 0 = .ok (.iload_n 1, 1) := by decide +kernel
theorem dX3_classOf_1 : decode cX3_classOf 1 = .ok (.bipush 8, 2) := by decide +kernel
theorem dX3_classOf_3 : decode cX3_classOf 3 = .ok (.if_icmp .le 7, 3) := by decide +kernel
theorem dX3_classOf_6 : decode cX3_classOf 6 = .ok (.iconst 0, 1) := by decide +kernel
theorem dX3_classOf_7 : decode cX3_classOf 7 = .ok (.goto 43, 3) := by decide +kernel
theorem dX3_classOf_10 : decode cX3_classOf 10 = .ok (.iload_n 1, 1) := by decide +kernel
theorem dX3_classOf_11 : decode cX3_classOf 11 = .ok (.iconst 2, 1) := by decide +kernel
theorem dX3_classOf_12 : decode cX3_classOf 12 = .ok (.if_icmp .gt 7, 3) := by decide +kernel
theorem dX3_classOf_15 : decode cX3_classOf 15 = .ok (.iconst 2, 1) := by decide +kernel
theorem dX3_classOf_16 : decode cX3_classOf 16 = .ok (.goto 34, 3) := by decide +kernel
theorem dX3_classOf_19 : decode cX3_classOf 19 = .ok (.iload_n 1, 1) := by decide +kernel
theorem dX3_classOf_20 : decode cX3_classOf 20 = .ok (.iconst 3, 1) := by decide +kernel
theorem dX3_classOf_21 : decode cX3_classOf 21 = .ok (.if_icmp .gt 7, 3) := by decide +kernel
theorem dX3_classOf_24 : decode cX3_classOf 24 = .ok (.iconst 3, 1) := by decide +kernel
theorem dX3_classOf_25 : decode cX3_classOf 25 = .ok (.goto 25, 3) := by decide +kernel
theorem dX3_classOf_28 : decode cX3_classOf 28 = .ok (.iload_n 1, 1) := by decide +kernel
theorem dX3_classOf_29 : decode cX3_classOf 29 = .ok (.iconst 4, 1) := by decide +kernel
theorem dX3_classOf_30 : decode cX3_classOf 30 = .ok (.if_icmp .gt 7, 3) := by decide +kernel
theorem dX3_classOf_33 : decode cX3_classOf 33 = .ok (.iconst 4, 1) := by decide +kernel
theorem dX3_classOf_34 : decode cX3_classOf 34 = .ok (.goto 16, 3) := by decide +kernel
theorem dX3_classOf_37 : decode cX3_classOf 37 = .ok (.iload_n 1, 1) := by decide +kernel
theorem dX3_classOf_38 : decode cX3_classOf 38 = .ok (.bipush 6, 2) := by decide +kernel
theorem dX3_classOf_40 : decode cX3_classOf 40 = .ok (.if_icmp .gt 8, 3) := by decide +kernel
theorem dX3_classOf_43 : decode cX3_classOf 43 = .ok (.bipush 6, 2) := by decide +kernel
theorem dX3_classOf_45 : decode cX3_classOf 45 = .ok (.goto 5, 3) := by decide +kernel
theorem dX3_classOf_48 : decode cX3_classOf 48 = .ok (.bipush 8, 2) := by decide +kernel
theorem dX3_classOf_50 : decode cX3_classOf 50 = .ok (.ireturn, 1) := by decide +kernel
theorem dX3_orderOf_0 : decode cX3_orderOf 0 = .ok (.iconst 0, 1) := by decide +kernel
theorem dX3_orderOf_1 : decode cX3_orderOf 1 = .ok (.istore_n 2, 1) := by decide +kernel
theorem dX3_orderOf_2 : decode cX3_orderOf 2 = .ok (.bipush 16, 2) := by decide +kernel
theorem dX3_orderOf_4 : decode cX3_orderOf 4 = .ok (.iload_n 2, 1) := by decide +kernel
theorem dX3_orderOf_5 : decode cX3_orderOf 5 = .ok (.ishl, 1) := by decide +kernel
theorem dX3_orderOf_6 : decode cX3_orderOf 6 = .ok (.iload_n 1, 1) := by decide +kernel
theorem dX3_orderOf_7 : decode cX3_orderOf 7 = .ok (.if_icmp .ge 9, 3) := by decide +kernel
theorem dX3_orderOf_10 : decode cX3_orderOf 10 = .ok (.iinc 2 1, 3) := by decide +kernel
theorem dX3_orderOf_13 : decode cX3_orderOf 13 = .ok (.goto (-11), 3) := by decide +kernel
theorem dX3_orderOf_16 : decode cX3_orderOf 16 = .ok (.iload_n 2, 1) := by decide +kernel
theorem dX3_orderOf_17 : decode cX3_orderOf 17 = .ok (.ireturn, 1) := by decide +kernel
set_option maxRecDepth 20000 in
theorem ggX3_isBlock_X3_is : GoodIn wsX3_isBlock wsX3_is := goodIn_r _ [6] (by decide +kernel) (by decide +kernel)
set_option maxRecDepth 20000 in
theorem gX3_isBlock_X3_is : GoodIn wsX3_isBlock (wsV RX3 69 RX3 yX3_is wsX3_is) := goodIn_app (goodIn_of _ (by decide +kernel)) ggX3_isBlock_X3_is
theorem dX3_isBlock_0 : decode cX3_isBlock 0 = .ok (.aload_n 0, 1) := by decide +kernel
theorem dX3_isBlock_1 : decode cX3_isBlock 1 = .ok (.iload_n 1, 1) := by decide +kernel
theorem dX3_isBlock_2 : decode cX3_isBlock 2 = .ok (.bipush 16, 2) := by decide +kernel
theorem dX3_isBlock_4 : decode cX3_isBlock 4 = .ok (.sipush 4095, 3) := by decide +kernel
theorem dX3_isBlock_7 : decode cX3_isBlock 7 = .ok (.invokevirtual 69, 3) := by decide +kernel
theorem dX3_isBlock_10 : decode cX3_isBlock 10 = .ok (.ifCond .eq 16, 3) := by decide +kernel
theorem dX3_isBlock_13 : decode cX3_isBlock 13 = .ok (.aload_n 0, 1) := by decide +kernel
theorem dX3_isBlock_14 : decode cX3_isBlock 14 = .ok (.getfield 16, 3) := by decide +kernel
theorem dX3_isBlock_17 : decode cX3_isBlock 17 = .ok (.iload_n 1, 1) := by decide +kernel
theorem dX3_isBlock_18 : decode cX3_isBlock 18 = .ok (.baload, 1) := by decide +kernel
theorem dX3_isBlock_19 : decode cX3_isBlock 19 = .ok (.ifCond .eq 7, 3) := by decide +kernel
theorem dX3_isBlock_22 : decode cX3_isBlock 22 = .ok (.iconst 1, 1) := by decide +kernel
theorem dX3_isBlock_23 : decode cX3_isBlock 23 = .ok (.goto 4, 3) := by decide +kernel
theorem dX3_isBlock_26 : decode cX3_isBlock 26 = .ok (.iconst 0, 1) := by decide +kernel
theorem dX3_isBlock_27 : decode cX3_isBlock 27 = .ok (.ireturn, 1) := by decide +kernel
set_option maxRecDepth 20000 in
theorem ggX3_map_X3_sizeAt : GoodIn wsX3_map wsX3_sizeAt := goodIn_r _ [11, 12, 25, 26, 27, 28, 29, 30, 31, 32, 33, 34, 35, 36, 37, 38, 39, 40, 41, 42] (by decide +kernel) (by decide +kernel)
set_option maxRecDepth 20000 in
theorem gX3_map_X3_sizeAt : GoodIn wsX3_map (wsV RX3 58 RX3 yX3_sizeAt wsX3_sizeAt) := goodIn_app (goodIn_of _ (by decide +kernel)) ggX3_map_X3_sizeAt
set_option maxRecDepth 20000 in
theorem ggX3_map_X3_classOf : GoodIn wsX3_map wsX3_classOf := goodIn_r _ [16] (by decide +kernel) (by decide +kernel)
set_option maxRecDepth 20000 in
theorem gX3_map_X3_classOf : GoodIn wsX3_map (wsV RX3 73 RX3 yX3_classOf wsX3_classOf) := goodIn_app (goodIn_of _ (by decide +kernel)) ggX3_map_X3_classOf
set_option maxRecDepth 20000 in
theorem ggX3_map_X3_orderOf : GoodIn wsX3_map wsX3_orderOf := goodIn_r _ [20] (by decide +kernel) (by decide +kernel)
set_option maxRecDepth 20000 in
theorem gX3_map_X3_orderOf : GoodIn wsX3_map (wsV RX3 76 RX3 yX3_orderOf wsX3_orderOf) := goodIn_app (goodIn_of _ (by decide +kernel)) ggX3_map_X3_orderOf
set_option maxRecDepth 20000 in
theorem ggX3_map_X3_areFree : GoodIn wsX3_map wsX3_areFree := goodIn_r _ [24, 1, 25, 26, 27, 28, 29, 30, 31, 32, 33, 34, 35, 36, 37, 38, 39, 40, 41, 42] (by decide +kernel) (by decide +kernel)
set_option maxRecDepth 20000 in
theorem gX3_map_X3_areFree : GoodIn wsX3_map (wsV RX3 79 RX3 yX3_areFree wsX3_areFree) := goodIn_app (goodIn_of _ (by decide +kernel)) ggX3_map_X3_areFree
theorem dX3_map_0 : decode cX3_map 0 = .ok (.iconst 0, 1) := by decide +kernel
theorem dX3_map_1 : decode cX3_map 1 = .ok (.istore_n 1, 1) := by decide +kernel
theorem dX3_map_2 : decode cX3_map 2 = .ok (.iload_n 1, 1) := by decide +kernel
theorem dX3_map_3 : decode cX3_map 3 = .ok (.sipush 256, 3) := by decide +kernel
theorem dX3_map_6 : decode cX3_map 6 = .ok (.if_icmp .ge 52, 3) := by decide +kernel
theorem dX3_map_9 : decode cX3_map 9 = .ok (.aload_n 0, 1) := by decide +kernel
theorem dX3_map_10 : decode cX3_map 10 = .ok (.getfield 26, 3) := by decide +kernel
theorem dX3_map_13 : decode cX3_map 13 = .ok (.iload_n 1, 1) := by decide +kernel
theorem dX3_map_14 : decode cX3_map 14 = .ok (.iload_n 1, 1) := by decide +kernel
theorem dX3_map_15 : decode cX3_map 15 = .ok (.ifCond .ne 7, 3) := by decide +kernel
theorem dX3_map_18 : decode cX3_map 18 = .ok (.iconst 4, 1) := by decide +kernel
theorem dX3_map_19 : decode cX3_map 19 = .ok (.goto 4, 3) := by decide +kernel
theorem dX3_map_22 : decode cX3_map 22 = .ok (.iconst 0, 1) := by decide +kernel
theorem dX3_map_23 : decode cX3_map 23 = .ok (.iastore, 1) := by decide +kernel
theorem dX3_map_24 : decode cX3_map 24 = .ok (.aload_n 0, 1) := by decide +kernel
theorem dX3_map_25 : decode cX3_map 25 = .ok (.getfield 29, 3) := by decide +kernel
theorem dX3_map_28 : decode cX3_map 28 = .ok (.iload_n 1, 1) := by decide +kernel
theorem dX3_map_29 : decode cX3_map 29 = .ok (.iconst (-1), 1) := by decide +kernel
theorem dX3_map_30 : decode cX3_map 30 = .ok (.iastore, 1) := by decide +kernel
theorem dX3_map_31 : decode cX3_map 31 = .ok (.aload_n 0, 1) := by decide +kernel
theorem dX3_map_32 : decode cX3_map 32 = .ok (.getfield 32, 3) := by decide +kernel
theorem dX3_map_35 : decode cX3_map 35 = .ok (.iload_n 1, 1) := by decide +kernel
theorem dX3_map_36 : decode cX3_map 36 = .ok (.iload_n 1, 1) := by decide +kernel
theorem dX3_map_37 : decode cX3_map 37 = .ok (.iastore, 1) := by decide +kernel
theorem dX3_map_38 : decode cX3_map 38 = .ok (.aload_n 0, 1) := by decide +kernel
theorem dX3_map_39 : decode cX3_map 39 = .ok (.getfield 35, 3) := by decide +kernel
theorem dX3_map_42 : decode cX3_map 42 = .ok (.iload_n 1, 1) := by decide +kernel
theorem dX3_map_43 : decode cX3_map 43 = .ok (.iconst 0, 1) := by decide +kernel
theorem dX3_map_44 : decode cX3_map 44 = .ok (.iastore, 1) := by decide +kernel
theorem dX3_map_45 : decode cX3_map 45 = .ok (.aload_n 0, 1) := by decide +kernel
theorem dX3_map_46 : decode cX3_map 46 = .ok (.getfield 38, 3) := by decide +kernel
theorem dX3_map_49 : decode cX3_map 49 = .ok (.iload_n 1, 1) := by decide +kernel
theorem dX3_map_50 : decode cX3_map 50 = .ok (.iconst (-1), 1) := by decide +kernel
theorem dX3_map_51 : decode cX3_map 51 = .ok (.iastore, 1) := by decide +kernel
theorem dX3_map_52 : decode cX3_map 52 = .ok (.iinc 1 1, 3) := by decide +kernel
theorem dX3_map_55 : decode cX3_map 55 = .ok (.goto (-53), 3) := by decide +kernel
theorem dX3_map_58 : decode cX3_map 58 = .ok (.bipush 16, 2) := by decide +kernel
theorem dX3_map_60 : decode cX3_map 60 = .ok (.istore_n 1, 1) := by decide +kernel
theorem dX3_map_61 : decode cX3_map 61 = .ok (.iload_n 1, 1) := by decide +kernel
theorem dX3_map_62 : decode cX3_map 62 = .ok (.sipush 4096, 3) := by decide +kernel
theorem dX3_map_65 : decode cX3_map 65 = .ok (.if_icmp .ge 136, 3) := by decide +kernel
theorem dX3_map_68 : decode cX3_map 68 = .ok (.aload_n 0, 1) := by decide +kernel
theorem dX3_map_69 : decode cX3_map 69 = .ok (.getfield 16, 3) := by decide +kernel
theorem dX3_map_72 : decode cX3_map 72 = .ok (.iload_n 1, 1) := by decide +kernel
theorem dX3_map_73 : decode cX3_map 73 = .ok (.baload, 1) := by decide +kernel
theorem dX3_map_74 : decode cX3_map 74 = .ok (.ifCond .ne 6, 3) := by decide +kernel
theorem dX3_map_77 : decode cX3_map 77 = .ok (.goto 118, 3) := by decide +kernel
theorem dX3_map_80 : decode cX3_map 80 = .ok (.aload_n 0, 1) := by decide +kernel
theorem dX3_map_81 : decode cX3_map 81 = .ok (.iload_n 1, 1) := by decide +kernel
theorem dX3_map_82 : decode cX3_map 82 = .ok (.invokevirtual 58, 3) := by decide +kernel
theorem dX3_map_85 : decode cX3_map 85 = .ok (.iconst 1, 1) := by decide +kernel
theorem dX3_map_86 : decode cX3_map 86 = .ok (.iadd, 1) := by decide +kernel
theorem dX3_map_87 : decode cX3_map 87 = .ok (.istore_n 2, 1) := by decide +kernel
theorem dX3_map_88 : decode cX3_map 88 = .ok (.iload_n 1, 1) := by decide +kernel
theorem dX3_map_89 : decode cX3_map 89 = .ok (.bipush 16, 2) := by decide +kernel
theorem dX3_map_91 : decode cX3_map 91 = .ok (.idiv, 1) := by decide +kernel
theorem dX3_map_92 : decode cX3_map 92 = .ok (.istore_n 3, 1) := by decide +kernel
theorem dX3_map_93 : decode cX3_map 93 = .ok (.aload_n 0, 1) := by decide +kernel
theorem dX3_map_94 : decode cX3_map 94 = .ok (.getfield 35, 3) := by decide +kernel
theorem dX3_map_97 : decode cX3_map 97 = .ok (.iload_n 3, 1) := by decide +kernel
theorem dX3_map_98 : decode cX3_map 98 = .ok (.dup2, 1) := by decide +kernel
theorem dX3_map_99 : decode cX3_map 99 = .ok (.iaload, 1) := by decide +kernel
theorem dX3_map_100 : decode cX3_map 100 = .ok (.iconst 1, 1) := by decide +kernel
theorem dX3_map_101 : decode cX3_map 101 = .ok (.iadd, 1) := by decide +kernel
theorem dX3_map_102 : decode cX3_map 102 = .ok (.iastore, 1) := by decide +kernel
theorem dX3_map_103 : decode cX3_map 103 = .ok (.iload_n 2, 1) := by decide +kernel
theorem dX3_map_104 : decode cX3_map 104 = .ok (.bipush 8, 2) := by decide +kernel
theorem dX3_map_106 : decode cX3_map 106 = .ok (.if_icmp .gt 24, 3) := by decide +kernel
theorem dX3_map_109 : decode cX3_map 109 = .ok (.aload_n 0, 1) := by decide +kernel
theorem dX3_map_110 : decode cX3_map 110 = .ok (.getfield 26, 3) := by decide +kernel
theorem dX3_map_113 : decode cX3_map 113 = .ok (.iload_n 3, 1) := by decide +kernel
theorem dX3_map_114 : decode cX3_map 114 = .ok (.iconst 1, 1) := by decide +kernel
theorem dX3_map_115 : decode cX3_map 115 = .ok (.iastore, 1) := by decide +kernel
theorem dX3_map_116 : decode cX3_map 116 = .ok (.aload_n 0, 1) := by decide +kernel
theorem dX3_map_117 : decode cX3_map 117 = .ok (.getfield 29, 3) := by decide +kernel
theorem dX3_map_120 : decode cX3_map 120 = .ok (.iload_n 3, 1) := by decide +kernel
theorem dX3_map_121 : decode cX3_map 121 = .ok (.aload_n 0, 1) := by decide +kernel
theorem dX3_map_122 : decode cX3_map 122 = .ok (.iload_n 2, 1) := by decide +kernel
theorem dX3_map_123 : decode cX3_map 123 = .ok (.invokevirtual 73, 3) := by decide +kernel
theorem dX3_map_126 : decode cX3_map 126 = .ok (.iastore, 1) := by decide +kernel
theorem dX3_map_127 : decode cX3_map 127 = .ok (.goto 68, 3) := by decide +kernel
theorem dX3_map_130 : decode cX3_map 130 = .ok (.aload_n 0, 1) := by decide +kernel
theorem dX3_map_131 : decode cX3_map 131 = .ok (.iload_n 2, 1) := by decide +kernel
theorem dX3_map_132 : decode cX3_map 132 = .ok (.invokevirtual 76, 3) := by decide +kernel
theorem dX3_map_135 : decode cX3_map 135 = .ok (.istore 4, 2) := by decide +kernel
theorem dX3_map_137 : decode cX3_map 137 = .ok (.iconst 0, 1) := by decide +kernel
theorem dX3_map_138 : decode cX3_map 138 = .ok (.istore 5, 2) := by decide +kernel
theorem dX3_map_140 : decode cX3_map 140 = .ok (.iload 5, 2) := by decide +kernel
theorem dX3_map_142 : decode cX3_map 142 = .ok (.iconst 1, 1) := by decide +kernel
theorem dX3_map_143 : decode cX3_map 143 = .ok (.iload 4, 2) := by decide +kernel
theorem dX3_map_145 : decode cX3_map 145 = .ok (.ishl, 1) := by decide +kernel
theorem dX3_map_146 : decode cX3_map 146 = .ok (.if_icmp .ge 49, 3) := by decide +kernel
theorem dX3_map_149 : decode cX3_map 149 = .ok (.aload_n 0, 1) := by decide +kernel
theorem dX3_map_150 : decode cX3_map 150 = .ok (.getfield 26, 3) := by decide +kernel
theorem dX3_map_153 : decode cX3_map 153 = .ok (.iload_n 3, 1) := by decide +kernel
theorem dX3_map_154 : decode cX3_map 154 = .ok (.iload 5, 2) := by decide +kernel
theorem dX3_map_156 : decode cX3_map 156 = .ok (.iadd, 1) := by decide +kernel
theorem dX3_map_157 : decode cX3_map 157 = .ok (.iload 5, 2) := by decide +kernel
theorem dX3_map_159 : decode cX3_map 159 = .ok (.ifCond .ne 7, 3) := by decide +kernel
theorem dX3_map_162 : decode cX3_map 162 = .ok (.iconst 2, 1) := by decide +kernel
theorem dX3_map_163 : decode cX3_map 163 = .ok (.goto 4, 3) := by decide +kernel
theorem dX3_map_166 : decode cX3_map 166 = .ok (.iconst 3, 1) := by decide +kernel
theorem dX3_map_167 : decode cX3_map 167 = .ok (.iastore, 1) := by decide +kernel
theorem dX3_map_168 : decode cX3_map 168 = .ok (.aload_n 0, 1) := by decide +kernel
theorem dX3_map_169 : decode cX3_map 169 = .ok (.getfield 29, 3) := by decide +kernel
theorem dX3_map_172 : decode cX3_map 172 = .ok (.iload_n 3, 1) := by decide +kernel
theorem dX3_map_173 : decode cX3_map 173 = .ok (.iload 5, 2) := by decide +kernel
theorem dX3_map_175 : decode cX3_map 175 = .ok (.iadd, 1) := by decide +kernel
theorem dX3_map_176 : decode cX3_map 176 = .ok (.iload 4, 2) := by decide +kernel
theorem dX3_map_178 : decode cX3_map 178 = .ok (.iastore, 1) := by decide +kernel
theorem dX3_map_179 : decode cX3_map 179 = .ok (.aload_n 0, 1) := by decide +kernel
theorem dX3_map_180 : decode cX3_map 180 = .ok (.getfield 32, 3) := by decide +kernel
theorem dX3_map_183 : decode cX3_map 183 = .ok (.iload_n 3, 1) := by decide +kernel
theorem dX3_map_184 : decode cX3_map 184 = .ok (.iload 5, 2) := by decide +kernel
theorem dX3_map_186 : decode cX3_map 186 = .ok (.iadd, 1) := by decide +kernel
theorem dX3_map_187 : decode cX3_map 187 = .ok (.iload_n 3, 1) := by decide +kernel
theorem dX3_map_188 : decode cX3_map 188 = .ok (.iastore, 1) := by decide +kernel
theorem dX3_map_189 : decode cX3_map 189 = .ok (.iinc 5 1, 3) := by decide +kernel
theorem dX3_map_192 : decode cX3_map 192 = .ok (.goto (-52), 3) := by decide +kernel
theorem dX3_map_195 : decode cX3_map 195 = .ok (.iinc 1 1, 3) := by decide +kernel
theorem dX3_map_198 : decode cX3_map 198 = .ok (.goto (-137), 3) := by decide +kernel
theorem dX3_map_201 : decode cX3_map 201 = .ok (.bipush 8, 2) := by decide +kernel
theorem dX3_map_203 : decode cX3_map 203 = .ok (.istore_n 1, 1) := by decide +kernel
theorem dX3_map_204 : decode cX3_map 204 = .ok (.iload_n 1, 1) := by decide +kernel
theorem dX3_map_205 : decode cX3_map 205 = .ok (.ifCond .lt 93, 3) := by decide +kernel
theorem dX3_map_208 : decode cX3_map 208 = .ok (.iconst 0, 1) := by decide +kernel
theorem dX3_map_209 : decode cX3_map 209 = .ok (.istore_n 2, 1) := by decide +kernel
theorem dX3_map_210 : decode cX3_map 210 = .ok (.iload_n 2, 1) := by decide +kernel
theorem dX3_map_211 : decode cX3_map 211 = .ok (.sipush 256, 3) := by decide +kernel
theorem dX3_map_214 : decode cX3_map 214 = .ok (.if_icmp .ge 78, 3) := by decide +kernel
theorem dX3_map_217 : decode cX3_map 217 = .ok (.aload_n 0, 1) := by decide +kernel
theorem dX3_map_218 : decode cX3_map 218 = .ok (.iload_n 2, 1) := by decide +kernel
theorem dX3_map_219 : decode cX3_map 219 = .ok (.iconst 1, 1) := by decide +kernel
theorem dX3_map_220 : decode cX3_map 220 = .ok (.iload_n 1, 1) := by decide +kernel
theorem dX3_map_221 : decode cX3_map 221 = .ok (.ishl, 1) := by decide +kernel
theorem dX3_map_222 : decode cX3_map 222 = .ok (.invokevirtual 79, 3) := by decide +kernel
theorem dX3_map_225 : decode cX3_map 225 = .ok (.ifCond .eq 58, 3) := by decide +kernel
theorem dX3_map_228 : decode cX3_map 228 = .ok (.aload_n 0, 1) := by decide +kernel
theorem dX3_map_229 : decode cX3_map 229 = .ok (.getfield 38, 3) := by decide +kernel
theorem dX3_map_232 : decode cX3_map 232 = .ok (.iload_n 2, 1) := by decide +kernel
theorem dX3_map_233 : decode cX3_map 233 = .ok (.iaload, 1) := by decide +kernel
theorem dX3_map_234 : decode cX3_map 234 = .ok (.iconst (-1), 1) := by decide +kernel
theorem dX3_map_235 : decode cX3_map 235 = .ok (.if_icmp .eq 6, 3) := by decide +kernel
theorem dX3_map_238 : decode cX3_map 238 = .ok (.goto 45, 3) := by decide +kernel
theorem dX3_map_241 : decode cX3_map 241 = .ok (.iconst 0, 1) := by decide +kernel
theorem dX3_map_242 : decode cX3_map 242 = .ok (.istore_n 3, 1) := by decide +kernel
theorem dX3_map_243 : decode cX3_map 243 = .ok (.iload_n 3, 1) := by decide +kernel
theorem dX3_map_244 : decode cX3_map 244 = .ok (.iconst 1, 1) := by decide +kernel
theorem dX3_map_245 : decode cX3_map 245 = .ok (.iload_n 1, 1) := by decide +kernel
theorem dX3_map_246 : decode cX3_map 246 = .ok (.ishl, 1) := by decide +kernel
theorem dX3_map_247 : decode cX3_map 247 = .ok (.if_icmp .ge 36, 3) := by decide +kernel
theorem dX3_map_250 : decode cX3_map 250 = .ok (.aload_n 0, 1) := by decide +kernel
theorem dX3_map_251 : decode cX3_map 251 = .ok (.getfield 38, 3) := by decide +kernel
theorem dX3_map_254 : decode cX3_map 254 = .ok (.iload_n 2, 1) := by decide +kernel
theorem dX3_map_255 : decode cX3_map 255 = .ok (.iload_n 3, 1) := by decide +kernel
theorem dX3_map_256 : decode cX3_map 256 = .ok (.iadd, 1) := by decide +kernel
theorem dX3_map_257 : decode cX3_map 257 = .ok (.iload_n 1, 1) := by decide +kernel
theorem dX3_map_258 : decode cX3_map 258 = .ok (.iastore, 1) := by decide +kernel
theorem dX3_map_259 : decode cX3_map 259 = .ok (.aload_n 0, 1) := by decide +kernel
theorem dX3_map_260 : decode cX3_map 260 = .ok (.getfield 29, 3) := by decide +kernel
theorem dX3_map_263 : decode cX3_map 263 = .ok (.iload_n 2, 1) := by decide +kernel
theorem dX3_map_264 : decode cX3_map 264 = .ok (.iload_n 3, 1) := by decide +kernel
theorem dX3_map_265 : decode cX3_map 265 = .ok (.iadd, 1) := by decide +kernel
theorem dX3_map_266 : decode cX3_map 266 = .ok (.iload_n 1, 1) := by decide +kernel
theorem dX3_map_267 : decode cX3_map 267 = .ok (.iastore, 1) := by decide +kernel
theorem dX3_map_268 : decode cX3_map 268 = .ok (.aload_n 0, 1) := by decide +kernel
theorem dX3_map_269 : decode cX3_map 269 = .ok (.getfield 32, 3) := by decide +kernel
theorem dX3_map_272 : decode cX3_map 272 = .ok (.iload_n 2, 1) := by decide +kernel
theorem dX3_map_273 : decode cX3_map 273 = .ok (.iload_n 3, 1) := by decide +kernel
theorem dX3_map_274 : decode cX3_map 274 = .ok (.iadd, 1) := by decide +kernel
theorem dX3_map_275 : decode cX3_map 275 = .ok (.iload_n 2, 1) := by decide +kernel
theorem dX3_map_276 : decode cX3_map 276 = .ok (.iastore, 1) := by decide +kernel
theorem dX3_map_277 : decode cX3_map 277 = .ok (.iinc 3 1, 3) := by decide +kernel
theorem dX3_map_280 : decode cX3_map 280 = .ok (.goto (-37), 3) := by decide +kernel
theorem dX3_map_283 : decode cX3_map 283 = .ok (.iload_n 2, 1) := by decide +kernel
theorem dX3_map_284 : decode cX3_map 284 = .ok (.iconst 1, 1) := by decide +kernel
theorem dX3_map_285 : decode cX3_map 285 = .ok (.iload_n 1, 1) := by decide +kernel
theorem dX3_map_286 : decode cX3_map 286 = .ok (.ishl, 1) := by decide +kernel
theorem dX3_map_287 : decode cX3_map 287 = .ok (.iadd, 1) := by decide +kernel
theorem dX3_map_288 : decode cX3_map 288 = .ok (.istore_n 2, 1) := by decide +kernel
theorem dX3_map_289 : decode cX3_map 289 = .ok (.goto (-79), 3) := by decide +kernel
theorem dX3_map_292 : decode cX3_map 292 = .ok (.iinc 1 (-1), 3) := by decide +kernel
theorem dX3_map_295 : decode cX3_map 295 = .ok (.goto (-91), 3) := by decide +kernel
theorem dX3_map_298 : decode cX3_map 298 = .ok (.return_, 1) := by decide +kernel
theorem dX3_areFree_0 : decode cX3_areFree 0 = .ok (.iload_n 1, 1) := by decide +kernel
theorem dX3_areFree_1 : decode cX3_areFree 1 = .ok (.iload_n 2, 1) := by decide +kernel
theorem dX3_areFree_2 : decode cX3_areFree 2 = .ok (.iadd, 1) := by decide +kernel
theorem dX3_areFree_3 : decode cX3_areFree 3 = .ok (.sipush 256, 3) := by decide +kernel
theorem dX3_areFree_6 : decode cX3_areFree 6 = .ok (.if_icmp .le 5, 3) := by decide +kernel
theorem dX3_areFree_9 : decode cX3_areFree 9 = .ok (.iconst 0, 1) := by decide +kernel
theorem dX3_areFree_10 : decode cX3_areFree 10 = .ok (.ireturn, 1) := by decide +kernel
theorem dX3_areFree_11 : decode cX3_areFree 11 = .ok (.iconst 0, 1) := by decide +kernel
theorem dX3_areFree_12 : decode cX3_areFree 12 = .ok (.istore_n 3, 1) := by decide +kernel
theorem dX3_areFree_13 : decode cX3_areFree 13 = .ok (.iload_n 3, 1) := by decide +kernel
theorem dX3_areFree_14 : decode cX3_areFree 14 = .ok (.iload_n 2, 1) := by decide +kernel
theorem dX3_areFree_15 : decode cX3_areFree 15 = .ok (.if_icmp .ge 22, 3) := by decide +kernel
theorem dX3_areFree_18 : decode cX3_areFree 18 = .ok (.aload_n 0, 1) := by decide +kernel
theorem dX3_areFree_19 : decode cX3_areFree 19 = .ok (.getfield 26, 3) := by decide +kernel
theorem dX3_areFree_22 : decode cX3_areFree 22 = .ok (.iload_n 1, 1) := by decide +kernel
theorem dX3_areFree_23 : decode cX3_areFree 23 = .ok (.iload_n 3, 1) := by decide +kernel
theorem dX3_areFree_24 : decode cX3_areFree 24 = .ok (.iadd, 1) := by decide +kernel
theorem dX3_areFree_25 : decode cX3_areFree 25 = .ok (.iaload, 1) := by decide +kernel
theorem dX3_areFree_26 : decode cX3_areFree 26 = .ok (.ifCond .eq 5, 3) := by decide +kernel
theorem dX3_areFree_29 : decode cX3_areFree 29 = .ok (.iconst 0, 1) := by decide +kernel
theorem dX3_areFree_30 : decode cX3_areFree 30 = .ok (.ireturn, 1) := by decide +kernel
theorem dX3_areFree_31 : decode cX3_areFree 31 = .ok (.iinc 3 1, 3) := by decide +kernel
theorem dX3_areFree_34 : decode cX3_areFree 34 = .ok (.goto (-21), 3) := by decide +kernel
theorem dX3_areFree_37 : decode cX3_areFree 37 = .ok (.iconst 1, 1) := by decide +kernel
theorem dX3_areFree_38 : decode cX3_areFree 38 = .ok (.ireturn, 1) := by decide +kernel
theorem dX3_taken_0 : decode cX3_taken 0 = .ok (.iload_n 1, 1) := by decide +kernel
theorem dX3_taken_1 : decode cX3_taken 1 = .ok (.istore_n 2, 1) := by decide +kernel
theorem dX3_taken_2 : decode cX3_taken 2 = .ok (.iload_n 2, 1) := by decide +kernel
theorem dX3_taken_3 : decode cX3_taken 3 = .ok (.bipush 8, 2) := by decide +kernel
theorem dX3_taken_5 : decode cX3_taken 5 = .ok (.if_icmp .gt 46, 3) := by decide +kernel
theorem dX3_taken_8 : decode cX3_taken 8 = .ok (.iconst 0, 1) := by decide +kernel
theorem dX3_taken_9 : decode cX3_taken 9 = .ok (.istore_n 3, 1) := by decide +kernel
theorem dX3_taken_10 : decode cX3_taken 10 = .ok (.iload_n 3, 1) := by decide +kernel
theorem dX3_taken_11 : decode cX3_taken 11 = .ok (.sipush 256, 3) := by decide +kernel
theorem dX3_taken_14 : decode cX3_taken 14 = .ok (.if_icmp .ge 31, 3) := by decide +kernel
theorem dX3_taken_17 : decode cX3_taken 17 = .ok (.aload_n 0, 1) := by decide +kernel
theorem dX3_taken_18 : decode cX3_taken 18 = .ok (.getfield 38, 3) := by decide +kernel
theorem dX3_taken_21 : decode cX3_taken 21 = .ok (.iload_n 3, 1) := by decide +kernel
theorem dX3_taken_22 : decode cX3_taken 22 = .ok (.iaload, 1) := by decide +kernel
theorem dX3_taken_23 : decode cX3_taken 23 = .ok (.iload_n 2, 1) := by decide +kernel
theorem dX3_taken_24 : decode cX3_taken 24 = .ok (.if_icmp .ne 15, 3) := by decide +kernel
theorem dX3_taken_27 : decode cX3_taken 27 = .ok (.aload_n 0, 1) := by decide +kernel
theorem dX3_taken_28 : decode cX3_taken 28 = .ok (.getfield 32, 3) := by decide +kernel
theorem dX3_taken_31 : decode cX3_taken 31 = .ok (.iload_n 3, 1) := by decide +kernel
theorem dX3_taken_32 : decode cX3_taken 32 = .ok (.iaload, 1) := by decide +kernel
theorem dX3_taken_33 : decode cX3_taken 33 = .ok (.iload_n 3, 1) := by decide +kernel
theorem dX3_taken_34 : decode cX3_taken 34 = .ok (.if_icmp .ne 5, 3) := by decide +kernel
theorem dX3_taken_37 : decode cX3_taken 37 = .ok (.iload_n 3, 1) := by decide +kernel
theorem dX3_taken_38 : decode cX3_taken 38 = .ok (.ireturn, 1) := by decide +kernel
theorem dX3_taken_39 : decode cX3_taken 39 = .ok (.iinc 3 1, 3) := by decide +kernel
theorem dX3_taken_42 : decode cX3_taken 42 = .ok (.goto (-32), 3) := by decide +kernel
theorem dX3_taken_45 : decode cX3_taken 45 = .ok (.iinc 2 1, 3) := by decide +kernel
theorem dX3_taken_48 : decode cX3_taken 48 = .ok (.goto (-46), 3) := by decide +kernel
theorem dX3_taken_51 : decode cX3_taken 51 = .ok (.iconst (-1), 1) := by decide +kernel
theorem dX3_taken_52 : decode cX3_taken 52 = .ok (.ireturn, 1) := by decide +kernel
theorem dX3_slots_0 : decode cX3_slots 0 = .ok (.bipush 16, 2) := by decide +kernel
theorem dX3_slots_2 : decode cX3_slots 2 = .ok (.aload_n 0, 1) := by decide +kernel
theorem dX3_slots_3 : decode cX3_slots 3 = .ok (.getfield 29, 3) := by decide +kernel
theorem dX3_slots_6 : decode cX3_slots 6 = .ok (.iload_n 1, 1) := by decide +kernel
theorem dX3_slots_7 : decode cX3_slots 7 = .ok (.iaload, 1) := by decide +kernel
theorem dX3_slots_8 : decode cX3_slots 8 = .ok (.idiv, 1) := by decide +kernel
theorem dX3_slots_9 : decode cX3_slots 9 = .ok (.ireturn, 1) := by decide +kernel
set_option maxRecDepth 20000 in
theorem ggX3_placeFor_X3_map : GoodIn wsX3_placeFor wsX3_map := goodIn_r _ [8, 1, 2, 9, 10, 11, 3, 12, 13, 14, 7, 15, 16, 17, 18, 19, 20, 21, 22, 23, 24, 25, 26, 27, 28, 37, 38, 39, 40, 41, 42, 43, 44, 45, 46, 47, 48, 49, 50, 51, 52, 53, 54] (by decide +kernel) (by decide +kernel)
set_option maxRecDepth 20000 in
theorem gX3_placeFor_X3_map : GoodIn wsX3_placeFor (wsV RX3 83 RX3 yX3_map wsX3_map) := goodIn_app (goodIn_of _ (by decide +kernel)) ggX3_placeFor_X3_map
set_option maxRecDepth 20000 in
theorem ggX3_placeFor_X3_classOf : GoodIn wsX3_placeFor wsX3_classOf := goodIn_r _ [20] (by decide +kernel) (by decide +kernel)
set_option maxRecDepth 20000 in
theorem gX3_placeFor_X3_classOf : GoodIn wsX3_placeFor (wsV RX3 73 RX3 yX3_classOf wsX3_classOf) := goodIn_app (goodIn_of _ (by decide +kernel)) ggX3_placeFor_X3_classOf
set_option maxRecDepth 20000 in
theorem ggX3_placeFor_X3_orderOf : GoodIn wsX3_placeFor wsX3_orderOf := goodIn_r _ [24] (by decide +kernel) (by decide +kernel)
set_option maxRecDepth 20000 in
theorem gX3_placeFor_X3_orderOf : GoodIn wsX3_placeFor (wsV RX3 76 RX3 yX3_orderOf wsX3_orderOf) := goodIn_app (goodIn_of _ (by decide +kernel)) ggX3_placeFor_X3_orderOf
set_option maxRecDepth 20000 in
theorem ggX3_placeFor_X3_taken : GoodIn wsX3_placeFor wsX3_taken := goodIn_r _ [32, 11, 9, 37, 38, 39, 40, 41, 42, 43, 44, 45, 46, 47, 48, 49, 50, 51, 52, 53, 54] (by decide +kernel) (by decide +kernel)
set_option maxRecDepth 20000 in
theorem gX3_placeFor_X3_taken : GoodIn wsX3_placeFor (wsV RX3 86 RX3 yX3_taken wsX3_taken) := goodIn_app (goodIn_of _ (by decide +kernel)) ggX3_placeFor_X3_taken
set_option maxRecDepth 20000 in
theorem ggX3_placeFor_X3_slots : GoodIn wsX3_placeFor wsX3_slots := goodIn_r _ [36, 2, 37, 38, 39, 40, 41, 42, 43, 44, 45, 46, 47, 48, 49, 50, 51, 52, 53, 54] (by decide +kernel) (by decide +kernel)
set_option maxRecDepth 20000 in
theorem gX3_placeFor_X3_slots : GoodIn wsX3_placeFor (wsV RX3 89 RX3 yX3_slots wsX3_slots) := goodIn_app (goodIn_of _ (by decide +kernel)) ggX3_placeFor_X3_slots
theorem dX3_placeFor_0 : decode cX3_placeFor 0 = .ok (.aload_n 0, 1) := by decide +kernel
theorem dX3_placeFor_1 : decode cX3_placeFor 1 = .ok (.invokevirtual 83, 3) := by decide +kernel
theorem dX3_placeFor_4 : decode cX3_placeFor 4 = .ok (.aload_n 0, 1) := by decide +kernel
theorem dX3_placeFor_5 : decode cX3_placeFor 5 = .ok (.iload_n 1, 1) := by decide +kernel
theorem dX3_placeFor_6 : decode cX3_placeFor 6 = .ok (.invokevirtual 73, 3) := by decide +kernel
theorem dX3_placeFor_9 : decode cX3_placeFor 9 = .ok (.istore_n 2, 1) := by decide +kernel
theorem dX3_placeFor_10 : decode cX3_placeFor 10 = .ok (.iload_n 2, 1) := by decide +kernel
theorem dX3_placeFor_11 : decode cX3_placeFor 11 = .ok (.ifCond .ne 27, 3) := by decide +kernel
theorem dX3_placeFor_14 : decode cX3_placeFor 14 = .ok (.aload_n 0, 1) := by decide +kernel
theorem dX3_placeFor_15 : decode cX3_placeFor 15 = .ok (.aload_n 0, 1) := by decide +kernel
theorem dX3_placeFor_16 : decode cX3_placeFor 16 = .ok (.iload_n 1, 1) := by decide +kernel
theorem dX3_placeFor_17 : decode cX3_placeFor 17 = .ok (.invokevirtual 76, 3) := by decide +kernel
theorem dX3_placeFor_20 : decode cX3_placeFor 20 = .ok (.invokevirtual 86, 3) := by decide +kernel
theorem dX3_placeFor_23 : decode cX3_placeFor 23 = .ok (.istore_n 3, 1) := by decide +kernel
theorem dX3_placeFor_24 : decode cX3_placeFor 24 = .ok (.iload_n 3, 1) := by decide +kernel
theorem dX3_placeFor_25 : decode cX3_placeFor 25 = .ok (.iconst (-1), 1) := by decide +kernel
theorem dX3_placeFor_26 : decode cX3_placeFor 26 = .ok (.if_icmp .ne 7, 3) := by decide +kernel
theorem dX3_placeFor_29 : decode cX3_placeFor 29 = .ok (.iconst (-1), 1) := by decide +kernel
theorem dX3_placeFor_30 : decode cX3_placeFor 30 = .ok (.goto 7, 3) := by decide +kernel
theorem dX3_placeFor_33 : decode cX3_placeFor 33 = .ok (.bipush 16, 2) := by decide +kernel
theorem dX3_placeFor_35 : decode cX3_placeFor 35 = .ok (.iload_n 3, 1) := by decide +kernel
theorem dX3_placeFor_36 : decode cX3_placeFor 36 = .ok (.imul, 1) := by decide +kernel
theorem dX3_placeFor_37 : decode cX3_placeFor 37 = .ok (.ireturn, 1) := by decide +kernel
theorem dX3_placeFor_38 : decode cX3_placeFor 38 = .ok (.iconst 1, 1) := by decide +kernel
theorem dX3_placeFor_39 : decode cX3_placeFor 39 = .ok (.istore_n 3, 1) := by decide +kernel
theorem dX3_placeFor_40 : decode cX3_placeFor 40 = .ok (.iload_n 3, 1) := by decide +kernel
theorem dX3_placeFor_41 : decode cX3_placeFor 41 = .ok (.sipush 256, 3) := by decide +kernel
theorem dX3_placeFor_44 : decode cX3_placeFor 44 = .ok (.if_icmp .ge 78, 3) := by decide +kernel
theorem dX3_placeFor_47 : decode cX3_placeFor 47 = .ok (.aload_n 0, 1) := by decide +kernel
theorem dX3_placeFor_48 : decode cX3_placeFor 48 = .ok (.getfield 26, 3) := by decide +kernel
theorem dX3_placeFor_51 : decode cX3_placeFor 51 = .ok (.iload_n 3, 1) := by decide +kernel
theorem dX3_placeFor_52 : decode cX3_placeFor 52 = .ok (.iaload, 1) := by decide +kernel
theorem dX3_placeFor_53 : decode cX3_placeFor 53 = .ok (.iconst 1, 1) := by decide +kernel
theorem dX3_placeFor_54 : decode cX3_placeFor 54 = .ok (.if_icmp .ne 62, 3) := by decide +kernel
theorem dX3_placeFor_57 : decode cX3_placeFor 57 = .ok (.aload_n 0, 1) := by decide +kernel
theorem dX3_placeFor_58 : decode cX3_placeFor 58 = .ok (.getfield 29, 3) := by decide +kernel
theorem dX3_placeFor_61 : decode cX3_placeFor 61 = .ok (.iload_n 3, 1) := by decide +kernel
theorem dX3_placeFor_62 : decode cX3_placeFor 62 = .ok (.iaload, 1) := by decide +kernel
theorem dX3_placeFor_63 : decode cX3_placeFor 63 = .ok (.iload_n 2, 1) := by decide +kernel
theorem dX3_placeFor_64 : decode cX3_placeFor 64 = .ok (.if_icmp .eq 6, 3) := by decide +kernel
theorem dX3_placeFor_67 : decode cX3_placeFor 67 = .ok (.goto 49, 3) := by decide +kernel
theorem dX3_placeFor_70 : decode cX3_placeFor 70 = .ok (.iconst 0, 1) := by decide +kernel
theorem dX3_placeFor_71 : decode cX3_placeFor 71 = .ok (.istore 4, 2) := by decide +kernel
theorem dX3_placeFor_73 : decode cX3_placeFor 73 = .ok (.iload 4, 2) := by decide +kernel
theorem dX3_placeFor_75 : decode cX3_placeFor 75 = .ok (.aload_n 0, 1) := by decide +kernel
theorem dX3_placeFor_76 : decode cX3_placeFor 76 = .ok (.iload_n 3, 1) := by decide +kernel
theorem dX3_placeFor_77 : decode cX3_placeFor 77 = .ok (.invokevirtual 89, 3) := by decide +kernel
theorem dX3_placeFor_80 : decode cX3_placeFor 80 = .ok (.if_icmp .ge 36, 3) := by decide +kernel
theorem dX3_placeFor_83 : decode cX3_placeFor 83 = .ok (.aload_n 0, 1) := by decide +kernel
theorem dX3_placeFor_84 : decode cX3_placeFor 84 = .ok (.getfield 16, 3) := by decide +kernel
theorem dX3_placeFor_87 : decode cX3_placeFor 87 = .ok (.bipush 16, 2) := by decide +kernel
theorem dX3_placeFor_89 : decode cX3_placeFor 89 = .ok (.iload_n 3, 1) := by decide +kernel
theorem dX3_placeFor_90 : decode cX3_placeFor 90 = .ok (.imul, 1) := by decide +kernel
theorem dX3_placeFor_91 : decode cX3_placeFor 91 = .ok (.iload_n 2, 1) := by decide +kernel
theorem dX3_placeFor_92 : decode cX3_placeFor 92 = .ok (.iload 4, 2) := by decide +kernel
theorem dX3_placeFor_94 : decode cX3_placeFor 94 = .ok (.imul, 1) := by decide +kernel
theorem dX3_placeFor_95 : decode cX3_placeFor 95 = .ok (.iadd, 1) := by decide +kernel
theorem dX3_placeFor_96 : decode cX3_placeFor 96 = .ok (.baload, 1) := by decide +kernel
theorem dX3_placeFor_97 : decode cX3_placeFor 97 = .ok (.ifCond .ne 13, 3) := by decide +kernel
theorem dX3_placeFor_100 : decode cX3_placeFor 100 = .ok (.bipush 16, 2) := by decide +kernel
theorem dX3_placeFor_102 : decode cX3_placeFor 102 = .ok (.iload_n 3, 1) := by decide +kernel
theorem dX3_placeFor_103 : decode cX3_placeFor 103 = .ok (.imul, 1) := by decide +kernel
theorem dX3_placeFor_104 : decode cX3_placeFor 104 = .ok (.iload_n 2, 1) := by decide +kernel
theorem dX3_placeFor_105 : decode cX3_placeFor 105 = .ok (.iload 4, 2) := by decide +kernel
theorem dX3_placeFor_107 : decode cX3_placeFor 107 = .ok (.imul, 1) := by decide +kernel
theorem dX3_placeFor_108 : decode cX3_placeFor 108 = .ok (.iadd, 1) := by decide +kernel
theorem dX3_placeFor_109 : decode cX3_placeFor 109 = .ok (.ireturn, 1) := by decide +kernel
theorem dX3_placeFor_110 : decode cX3_placeFor 110 = .ok (.iinc 4 1, 3) := by decide +kernel
theorem dX3_placeFor_113 : decode cX3_placeFor 113 = .ok (.goto (-40), 3) := by decide +kernel
theorem dX3_placeFor_116 : decode cX3_placeFor 116 = .ok (.iinc 3 1, 3) := by decide +kernel
theorem dX3_placeFor_119 : decode cX3_placeFor 119 = .ok (.goto (-79), 3) := by decide +kernel
theorem dX3_placeFor_122 : decode cX3_placeFor 122 = .ok (.aload_n 0, 1) := by decide +kernel
theorem dX3_placeFor_123 : decode cX3_placeFor 123 = .ok (.iconst 0, 1) := by decide +kernel
theorem dX3_placeFor_124 : decode cX3_placeFor 124 = .ok (.invokevirtual 86, 3) := by decide +kernel
theorem dX3_placeFor_127 : decode cX3_placeFor 127 = .ok (.istore_n 3, 1) := by decide +kernel
theorem dX3_placeFor_128 : decode cX3_placeFor 128 = .ok (.iload_n 3, 1) := by decide +kernel
theorem dX3_placeFor_129 : decode cX3_placeFor 129 = .ok (.iconst (-1), 1) := by decide +kernel
theorem dX3_placeFor_130 : decode cX3_placeFor 130 = .ok (.if_icmp .ne 7, 3) := by decide +kernel
theorem dX3_placeFor_133 : decode cX3_placeFor 133 = .ok (.iconst (-1), 1) := by decide +kernel
theorem dX3_placeFor_134 : decode cX3_placeFor 134 = .ok (.goto 7, 3) := by decide +kernel
theorem dX3_placeFor_137 : decode cX3_placeFor 137 = .ok (.bipush 16, 2) := by decide +kernel
theorem dX3_placeFor_139 : decode cX3_placeFor 139 = .ok (.iload_n 3, 1) := by decide +kernel
theorem dX3_placeFor_140 : decode cX3_placeFor 140 = .ok (.imul, 1) := by decide +kernel
theorem dX3_placeFor_141 : decode cX3_placeFor 141 = .ok (.ireturn, 1) := by decide +kernel
set_option maxRecDepth 20000 in
theorem ggX3_alloc_X3_is : GoodIn wsX3_alloc wsX3_is := goodIn_r _ [8] (by decide +kernel) (by decide +kernel)
set_option maxRecDepth 20000 in
theorem gX3_alloc_X3_is : GoodIn wsX3_alloc (wsV RX3 69 RX3 yX3_is wsX3_is) := goodIn_app (goodIn_of _ (by decide +kernel)) ggX3_alloc_X3_is
set_option maxRecDepth 20000 in
theorem ggX3_alloc_X3_no : GoodIn wsX3_alloc wsX3_no := goodIn_r _ [12, 3, 63, 64, 65, 66, 67, 68, 69, 70, 71, 72, 73, 74, 75, 76, 77, 78, 79, 80] (by decide +kernel) (by decide +kernel)
set_option maxRecDepth 20000 in
theorem gX3_alloc_X3_no : GoodIn wsX3_alloc (wsV RX3 92 RX3 yX3_no wsX3_no) := goodIn_app (goodIn_of _ (by decide +kernel)) ggX3_alloc_X3_no
set_option maxRecDepth 20000 in
theorem ggX3_alloc_X3_placeFor : GoodIn wsX3_alloc wsX3_placeFor := goodIn_r _ [16, 17, 18, 2, 19, 20, 21, 7, 22, 23, 24, 25, 26, 27, 28, 29, 30, 31, 32, 33, 34, 35, 36, 37, 38, 39, 40, 41, 42, 43, 44, 45, 46, 47, 48, 49, 50, 63, 64, 65, 66, 67, 68, 69, 70, 71, 72, 73, 74, 75, 76, 77, 78, 79, 80] (by decide +kernel) (by decide +kernel)
set_option maxRecDepth 20000 in
theorem gX3_alloc_X3_placeFor : GoodIn wsX3_alloc (wsV RX3 95 RX3 yX3_placeFor wsX3_placeFor) := goodIn_app (goodIn_of _ (by decide +kernel)) ggX3_alloc_X3_placeFor
set_option maxRecDepth 20000 in
theorem ggX3_alloc_X3_headOf : GoodIn wsX3_alloc wsX3_headOf := goodIn_r _ [54, 55] (by decide +kernel) (by decide +kernel)
set_option maxRecDepth 20000 in
theorem gX3_alloc_X3_headOf : GoodIn wsX3_alloc (wsV RX3 65 RX3 yX3_headOf wsX3_headOf) := goodIn_app (goodIn_of _ (by decide +kernel)) ggX3_alloc_X3_headOf
set_option maxRecDepth 20000 in
theorem ggX3_alloc_X3_write : GoodIn wsX3_alloc wsX3_write := goodIn_r _ [59, 30, 60, 61, 62, 63, 64, 65, 66, 67, 68, 69, 70, 71, 72, 73, 74, 75, 76, 77, 78, 79, 80] (by decide +kernel) (by decide +kernel)
set_option maxRecDepth 20000 in
theorem gX3_alloc_X3_write : GoodIn wsX3_alloc (wsV RX3 98 RX3 yX3_write wsX3_write) := goodIn_app (goodIn_of _ (by decide +kernel)) ggX3_alloc_X3_write
theorem dX3_alloc_0 : decode cX3_alloc 0 = .ok (.aload_n 0, 1) := by decide +kernel
theorem dX3_alloc_1 : decode cX3_alloc 1 = .ok (.iconst 0, 1) := by decide +kernel
theorem dX3_alloc_2 : decode cX3_alloc 2 = .ok (.putfield 47, 3) := by decide +kernel
theorem dX3_alloc_5 : decode cX3_alloc 5 = .ok (.aload_n 0, 1) := by decide +kernel
theorem dX3_alloc_6 : decode cX3_alloc 6 = .ok (.iload_n 1, 1) := by decide +kernel
theorem dX3_alloc_7 : decode cX3_alloc 7 = .ok (.iconst 1, 1) := by decide +kernel
theorem dX3_alloc_8 : decode cX3_alloc 8 = .ok (.sipush 2047, 3) := by decide +kernel
theorem dX3_alloc_11 : decode cX3_alloc 11 = .ok (.invokevirtual 69, 3) := by decide +kernel
theorem dX3_alloc_14 : decode cX3_alloc 14 = .ok (.ifCond .eq 13, 3) := by decide +kernel
theorem dX3_alloc_17 : decode cX3_alloc 17 = .ok (.aload_n 0, 1) := by decide +kernel
theorem dX3_alloc_18 : decode cX3_alloc 18 = .ok (.iload_n 2, 1) := by decide +kernel
theorem dX3_alloc_19 : decode cX3_alloc 19 = .ok (.iconst 0, 1) := by decide +kernel
theorem dX3_alloc_20 : decode cX3_alloc 20 = .ok (.iload_n 1, 1) := by decide +kernel
theorem dX3_alloc_21 : decode cX3_alloc 21 = .ok (.invokevirtual 69, 3) := by decide +kernel
theorem dX3_alloc_24 : decode cX3_alloc 24 = .ok (.ifCond .ne 9, 3) := by decide +kernel
theorem dX3_alloc_27 : decode cX3_alloc 27 = .ok (.aload_n 0, 1) := by decide +kernel
theorem dX3_alloc_28 : decode cX3_alloc 28 = .ok (.iconst 3, 1) := by decide +kernel
theorem dX3_alloc_29 : decode cX3_alloc 29 = .ok (.invokevirtual 92, 3) := by decide +kernel
theorem dX3_alloc_32 : decode cX3_alloc 32 = .ok (.ireturn, 1) := by decide +kernel
theorem dX3_alloc_33 : decode cX3_alloc 33 = .ok (.aload_n 0, 1) := by decide +kernel
theorem dX3_alloc_34 : decode cX3_alloc 34 = .ok (.iload_n 1, 1) := by decide +kernel
theorem dX3_alloc_35 : decode cX3_alloc 35 = .ok (.iconst 1, 1) := by decide +kernel
theorem dX3_alloc_36 : decode cX3_alloc 36 = .ok (.iadd, 1) := by decide +kernel
theorem dX3_alloc_37 : decode cX3_alloc 37 = .ok (.invokevirtual 95, 3) := by decide +kernel
theorem dX3_alloc_40 : decode cX3_alloc 40 = .ok (.istore_n 3, 1) := by decide +kernel
theorem dX3_alloc_41 : decode cX3_alloc 41 = .ok (.iload_n 3, 1) := by decide +kernel
theorem dX3_alloc_42 : decode cX3_alloc 42 = .ok (.iconst (-1), 1) := by decide +kernel
theorem dX3_alloc_43 : decode cX3_alloc 43 = .ok (.if_icmp .ne 9, 3) := by decide +kernel
theorem dX3_alloc_46 : decode cX3_alloc 46 = .ok (.aload_n 0, 1) := by decide +kernel
theorem dX3_alloc_47 : decode cX3_alloc 47 = .ok (.iconst 1, 1) := by decide +kernel
theorem dX3_alloc_48 : decode cX3_alloc 48 = .ok (.invokevirtual 92, 3) := by decide +kernel
theorem dX3_alloc_51 : decode cX3_alloc 51 = .ok (.ireturn, 1) := by decide +kernel
theorem dX3_alloc_52 : decode cX3_alloc 52 = .ok (.aload_n 0, 1) := by decide +kernel
theorem dX3_alloc_53 : decode cX3_alloc 53 = .ok (.getfield 16, 3) := by decide +kernel
theorem dX3_alloc_56 : decode cX3_alloc 56 = .ok (.iload_n 3, 1) := by decide +kernel
theorem dX3_alloc_57 : decode cX3_alloc 57 = .ok (.iconst 1, 1) := by decide +kernel
theorem dX3_alloc_58 : decode cX3_alloc 58 = .ok (.bastore, 1) := by decide +kernel
theorem dX3_alloc_59 : decode cX3_alloc 59 = .ok (.aload_n 0, 1) := by decide +kernel
theorem dX3_alloc_60 : decode cX3_alloc 60 = .ok (.iload_n 3, 1) := by decide +kernel
theorem dX3_alloc_61 : decode cX3_alloc 61 = .ok (.aload_n 0, 1) := by decide +kernel
theorem dX3_alloc_62 : decode cX3_alloc 62 = .ok (.iload_n 3, 1) := by decide +kernel
theorem dX3_alloc_63 : decode cX3_alloc 63 = .ok (.iload_n 1, 1) := by decide +kernel
theorem dX3_alloc_64 : decode cX3_alloc 64 = .ok (.iload_n 2, 1) := by decide +kernel
theorem dX3_alloc_65 : decode cX3_alloc 65 = .ok (.invokevirtual 65, 3) := by decide +kernel
theorem dX3_alloc_68 : decode cX3_alloc 68 = .ok (.invokevirtual 98, 3) := by decide +kernel
theorem dX3_alloc_71 : decode cX3_alloc 71 = .ok (.iconst 0, 1) := by decide +kernel
theorem dX3_alloc_72 : decode cX3_alloc 72 = .ok (.istore 4, 2) := by decide +kernel
theorem dX3_alloc_74 : decode cX3_alloc 74 = .ok (.iload 4, 2) := by decide +kernel
theorem dX3_alloc_76 : decode cX3_alloc 76 = .ok (.iload_n 1, 1) := by decide +kernel
theorem dX3_alloc_77 : decode cX3_alloc 77 = .ok (.if_icmp .ge 20, 3) := by decide +kernel
theorem dX3_alloc_80 : decode cX3_alloc 80 = .ok (.aload_n 0, 1) := by decide +kernel
theorem dX3_alloc_81 : decode cX3_alloc 81 = .ok (.iload_n 3, 1) := by decide +kernel
theorem dX3_alloc_82 : decode cX3_alloc 82 = .ok (.iconst 1, 1) := by decide +kernel
theorem dX3_alloc_83 : decode cX3_alloc 83 = .ok (.iadd, 1) := by decide +kernel
theorem dX3_alloc_84 : decode cX3_alloc 84 = .ok (.iload 4, 2) := by decide +kernel
theorem dX3_alloc_86 : decode cX3_alloc 86 = .ok (.iadd, 1) := by decide +kernel
theorem dX3_alloc_87 : decode cX3_alloc 87 = .ok (.iconst 0, 1) := by decide +kernel
theorem dX3_alloc_88 : decode cX3_alloc 88 = .ok (.invokevirtual 98, 3) := by decide +kernel
theorem dX3_alloc_91 : decode cX3_alloc 91 = .ok (.iinc 4 1, 3) := by decide +kernel
theorem dX3_alloc_94 : decode cX3_alloc 94 = .ok (.goto (-20), 3) := by decide +kernel
theorem dX3_alloc_97 : decode cX3_alloc 97 = .ok (.aload_n 0, 1) := by decide +kernel
theorem dX3_alloc_98 : decode cX3_alloc 98 = .ok (.iconst 0, 1) := by decide +kernel
theorem dX3_alloc_99 : decode cX3_alloc 99 = .ok (.putfield 51, 3) := by decide +kernel
theorem dX3_alloc_102 : decode cX3_alloc 102 = .ok (.iload_n 3, 1) := by decide +kernel
theorem dX3_alloc_103 : decode cX3_alloc 103 = .ok (.ireturn, 1) := by decide +kernel
set_option maxRecDepth 20000 in
theorem ggX3_leading_X3_refsAt : GoodIn wsX3_leading wsX3_refsAt := goodIn_r _ [7, 1, 8, 9, 10, 11, 12, 13, 14, 15, 16, 17, 18, 19, 20, 21, 22, 23, 24, 25] (by decide +kernel) (by decide +kernel)
set_option maxRecDepth 20000 in
theorem gX3_leading_X3_refsAt : GoodIn wsX3_leading (wsV RX3 62 RX3 yX3_refsAt wsX3_refsAt) := goodIn_app (goodIn_of _ (by decide +kernel)) ggX3_leading_X3_refsAt
theorem dX3_leading_0 : decode cX3_leading 0 = .ok (.iconst 0, 1) := by decide +kernel
theorem dX3_leading_1 : decode cX3_leading 1 = .ok (.istore_n 2, 1) := by decide +kernel
theorem dX3_leading_2 : decode cX3_leading 2 = .ok (.iconst 1, 1) := by decide +kernel
theorem dX3_leading_3 : decode cX3_leading 3 = .ok (.istore_n 3, 1) := by decide +kernel
theorem dX3_leading_4 : decode cX3_leading 4 = .ok (.iload_n 3, 1) := by decide +kernel
theorem dX3_leading_5 : decode cX3_leading 5 = .ok (.bipush 8, 2) := by decide +kernel
theorem dX3_leading_7 : decode cX3_leading 7 = .ok (.if_icmp .gt 27, 3) := by decide +kernel
theorem dX3_leading_10 : decode cX3_leading 10 = .ok (.iload_n 2, 1) := by decide +kernel
theorem dX3_leading_11 : decode cX3_leading 11 = .ok (.aload_n 0, 1) := by decide +kernel
theorem dX3_leading_12 : decode cX3_leading 12 = .ok (.getfield 7, 3) := by decide +kernel
theorem dX3_leading_15 : decode cX3_leading 15 = .ok (.iload_n 3, 1) := by decide +kernel
theorem dX3_leading_16 : decode cX3_leading 16 = .ok (.iaload, 1) := by decide +kernel
theorem dX3_leading_17 : decode cX3_leading 17 = .ok (.iload_n 1, 1) := by decide +kernel
theorem dX3_leading_18 : decode cX3_leading 18 = .ok (.if_icmp .ne 7, 3) := by decide +kernel
theorem dX3_leading_21 : decode cX3_leading 21 = .ok (.iconst 1, 1) := by decide +kernel
theorem dX3_leading_22 : decode cX3_leading 22 = .ok (.goto 4, 3) := by decide +kernel
theorem dX3_leading_25 : decode cX3_leading 25 = .ok (.iconst 0, 1) := by decide +kernel
theorem dX3_leading_26 : decode cX3_leading 26 = .ok (.iadd, 1) := by decide +kernel
theorem dX3_leading_27 : decode cX3_leading 27 = .ok (.istore_n 2, 1) := by decide +kernel
theorem dX3_leading_28 : decode cX3_leading 28 = .ok (.iinc 3 1, 3) := by decide +kernel
theorem dX3_leading_31 : decode cX3_leading 31 = .ok (.goto (-27), 3) := by decide +kernel
theorem dX3_leading_34 : decode cX3_leading 34 = .ok (.bipush 16, 2) := by decide +kernel
theorem dX3_leading_36 : decode cX3_leading 36 = .ok (.istore_n 3, 1) := by decide +kernel
theorem dX3_leading_37 : decode cX3_leading 37 = .ok (.iload_n 3, 1) := by decide +kernel
theorem dX3_leading_38 : decode cX3_leading 38 = .ok (.sipush 4096, 3) := by decide +kernel
theorem dX3_leading_41 : decode cX3_leading 41 = .ok (.if_icmp .ge 63, 3) := by decide +kernel
theorem dX3_leading_44 : decode cX3_leading 44 = .ok (.aload_n 0, 1) := by decide +kernel
theorem dX3_leading_45 : decode cX3_leading 45 = .ok (.getfield 16, 3) := by decide +kernel
theorem dX3_leading_48 : decode cX3_leading 48 = .ok (.iload_n 3, 1) := by decide +kernel
theorem dX3_leading_49 : decode cX3_leading 49 = .ok (.baload, 1) := by decide +kernel
theorem dX3_leading_50 : decode cX3_leading 50 = .ok (.ifCond .ne 6, 3) := by decide +kernel
theorem dX3_leading_53 : decode cX3_leading 53 = .ok (.goto 45, 3) := by decide +kernel
theorem dX3_leading_56 : decode cX3_leading 56 = .ok (.iconst 0, 1) := by decide +kernel
theorem dX3_leading_57 : decode cX3_leading 57 = .ok (.istore 4, 2) := by decide +kernel
theorem dX3_leading_59 : decode cX3_leading 59 = .ok (.iload 4, 2) := by decide +kernel
theorem dX3_leading_61 : decode cX3_leading 61 = .ok (.aload_n 0, 1) := by decide +kernel
theorem dX3_leading_62 : decode cX3_leading 62 = .ok (.iload_n 3, 1) := by decide +kernel
theorem dX3_leading_63 : decode cX3_leading 63 = .ok (.invokevirtual 62, 3) := by decide +kernel
theorem dX3_leading_66 : decode cX3_leading 66 = .ok (.if_icmp .ge 32, 3) := by decide +kernel
theorem dX3_leading_69 : decode cX3_leading 69 = .ok (.iload_n 2, 1) := by decide +kernel
theorem dX3_leading_70 : decode cX3_leading 70 = .ok (.aload_n 0, 1) := by decide +kernel
theorem dX3_leading_71 : decode cX3_leading 71 = .ok (.getfield 7, 3) := by decide +kernel
theorem dX3_leading_74 : decode cX3_leading 74 = .ok (.iload_n 3, 1) := by decide +kernel
theorem dX3_leading_75 : decode cX3_leading 75 = .ok (.iconst 1, 1) := by decide +kernel
theorem dX3_leading_76 : decode cX3_leading 76 = .ok (.iadd, 1) := by decide +kernel
theorem dX3_leading_77 : decode cX3_leading 77 = .ok (.iload 4, 2) := by decide +kernel
theorem dX3_leading_79 : decode cX3_leading 79 = .ok (.iadd, 1) := by decide +kernel
theorem dX3_leading_80 : decode cX3_leading 80 = .ok (.iaload, 1) := by decide +kernel
theorem dX3_leading_81 : decode cX3_leading 81 = .ok (.iload_n 1, 1) := by decide +kernel
theorem dX3_leading_82 : decode cX3_leading 82 = .ok (.if_icmp .ne 7, 3) := by decide +kernel
theorem dX3_leading_85 : decode cX3_leading 85 = .ok (.iconst 1, 1) := by decide +kernel
theorem dX3_leading_86 : decode cX3_leading 86 = .ok (.goto 4, 3) := by decide +kernel
theorem dX3_leading_89 : decode cX3_leading 89 = .ok (.iconst 0, 1) := by decide +kernel
theorem dX3_leading_90 : decode cX3_leading 90 = .ok (.iadd, 1) := by decide +kernel
theorem dX3_leading_91 : decode cX3_leading 91 = .ok (.istore_n 2, 1) := by decide +kernel
theorem dX3_leading_92 : decode cX3_leading 92 = .ok (.iinc 4 1, 3) := by decide +kernel
theorem dX3_leading_95 : decode cX3_leading 95 = .ok (.goto (-36), 3) := by decide +kernel
theorem dX3_leading_98 : decode cX3_leading 98 = .ok (.iinc 3 1, 3) := by decide +kernel
theorem dX3_leading_101 : decode cX3_leading 101 = .ok (.goto (-64), 3) := by decide +kernel
theorem dX3_leading_104 : decode cX3_leading 104 = .ok (.iload_n 2, 1) := by decide +kernel
theorem dX3_leading_105 : decode cX3_leading 105 = .ok (.ireturn, 1) := by decide +kernel
set_option maxRecDepth 20000 in
theorem ggX3_freed_X3_sizeAt : GoodIn wsX3_freed wsX3_sizeAt := goodIn_r _ [6, 7, 15, 16, 17, 18, 19, 20, 21, 22, 23, 24, 25, 26, 27, 28, 29, 30, 31, 32] (by decide +kernel) (by decide +kernel)
set_option maxRecDepth 20000 in
theorem gX3_freed_X3_sizeAt : GoodIn wsX3_freed (wsV RX3 58 RX3 yX3_sizeAt wsX3_sizeAt) := goodIn_app (goodIn_of _ (by decide +kernel)) ggX3_freed_X3_sizeAt
set_option maxRecDepth 20000 in
theorem ggX3_freed_X3_write : GoodIn wsX3_freed wsX3_write := goodIn_r _ [11, 7, 12, 13, 14, 15, 16, 17, 18, 19, 20, 21, 22, 23, 24, 25, 26, 27, 28, 29, 30, 31, 32] (by decide +kernel) (by decide +kernel)
set_option maxRecDepth 20000 in
theorem gX3_freed_X3_write : GoodIn wsX3_freed (wsV RX3 98 RX3 yX3_write wsX3_write) := goodIn_app (goodIn_of _ (by decide +kernel)) ggX3_freed_X3_write
theorem dX3_freed_0 : decode cX3_freed 0 = .ok (.aload_n 0, 1) := by decide +kernel
theorem dX3_freed_1 : decode cX3_freed 1 = .ok (.iload_n 1, 1) := by decide +kernel
theorem dX3_freed_2 : decode cX3_freed 2 = .ok (.invokevirtual 58, 3) := by decide +kernel
theorem dX3_freed_5 : decode cX3_freed 5 = .ok (.iconst 1, 1) := by decide +kernel
theorem dX3_freed_6 : decode cX3_freed 6 = .ok (.iadd, 1) := by decide +kernel
theorem dX3_freed_7 : decode cX3_freed 7 = .ok (.istore_n 2, 1) := by decide +kernel
theorem dX3_freed_8 : decode cX3_freed 8 = .ok (.aload_n 0, 1) := by decide +kernel
theorem dX3_freed_9 : decode cX3_freed 9 = .ok (.getfield 16, 3) := by decide +kernel
theorem dX3_freed_12 : decode cX3_freed 12 = .ok (.iload_n 1, 1) := by decide +kernel
theorem dX3_freed_13 : decode cX3_freed 13 = .ok (.iconst 0, 1) := by decide +kernel
theorem dX3_freed_14 : decode cX3_freed 14 = .ok (.bastore, 1) := by decide +kernel
theorem dX3_freed_15 : decode cX3_freed 15 = .ok (.aload_n 0, 1) := by decide +kernel
theorem dX3_freed_16 : decode cX3_freed 16 = .ok (.iload_n 1, 1) := by decide +kernel
theorem dX3_freed_17 : decode cX3_freed 17 = .ok (.iconst 0, 1) := by decide +kernel
theorem dX3_freed_18 : decode cX3_freed 18 = .ok (.invokevirtual 98, 3) := by decide +kernel
theorem dX3_freed_21 : decode cX3_freed 21 = .ok (.iload_n 2, 1) := by decide +kernel
theorem dX3_freed_22 : decode cX3_freed 22 = .ok (.ireturn, 1) := by decide +kernel
set_option maxRecDepth 20000 in
theorem ggX3_free_X3_isBlock : GoodIn wsX3_free wsX3_isBlock := goodIn_r _ [7, 8, 9, 10, 11, 6, 12, 41, 42, 43, 44, 45, 46, 47, 48, 49, 50, 51, 52, 53, 54, 55, 56, 57, 58] (by decide +kernel) (by decide +kernel)
set_option maxRecDepth 20000 in
theorem gX3_free_X3_isBlock : GoodIn wsX3_free (wsV RX3 102 RX3 yX3_isBlock wsX3_isBlock) := goodIn_app (goodIn_of _ (by decide +kernel)) ggX3_free_X3_isBlock
set_option maxRecDepth 20000 in
theorem ggX3_free_X3_no : GoodIn wsX3_free wsX3_no := goodIn_r _ [16, 2, 41, 42, 43, 44, 45, 46, 47, 48, 49, 50, 51, 52, 53, 54, 55, 56, 57, 58] (by decide +kernel) (by decide +kernel)
set_option maxRecDepth 20000 in
theorem gX3_free_X3_no : GoodIn wsX3_free (wsV RX3 92 RX3 yX3_no wsX3_no) := goodIn_app (goodIn_of _ (by decide +kernel)) ggX3_free_X3_no
set_option maxRecDepth 20000 in
theorem ggX3_free_X3_leading : GoodIn wsX3_free wsX3_leading := goodIn_r _ [20, 21, 8, 22, 23, 24, 6, 25, 41, 42, 43, 44, 45, 46, 47, 48, 49, 50, 51, 52, 53, 54, 55, 56, 57, 58] (by decide +kernel) (by decide +kernel)
set_option maxRecDepth 20000 in
theorem gX3_free_X3_leading : GoodIn wsX3_free (wsV RX3 106 RX3 yX3_leading wsX3_leading) := goodIn_app (goodIn_of _ (by decide +kernel)) ggX3_free_X3_leading
set_option maxRecDepth 20000 in
theorem ggX3_free_X3_freed : GoodIn wsX3_free wsX3_freed := goodIn_r _ [29, 8, 30, 31, 32, 6, 33, 21, 34, 35, 36, 37, 38, 39, 40, 41, 42, 43, 44, 45, 46, 47, 48, 49, 50, 51, 52, 53, 54, 55, 56, 57, 58] (by decide +kernel) (by decide +kernel)
set_option maxRecDepth 20000 in
theorem gX3_free_X3_freed : GoodIn wsX3_free (wsV RX3 109 RX3 yX3_freed wsX3_freed) := goodIn_app (goodIn_of _ (by decide +kernel)) ggX3_free_X3_freed
theorem dX3_free_0 : decode cX3_free 0 = .ok (.aload_n 0, 1) := by decide +kernel
theorem dX3_free_1 : decode cX3_free 1 = .ok (.iconst 0, 1) := by decide +kernel
theorem dX3_free_2 : decode cX3_free 2 = .ok (.putfield 47, 3) := by decide +kernel
theorem dX3_free_5 : decode cX3_free 5 = .ok (.aload_n 0, 1) := by decide +kernel
theorem dX3_free_6 : decode cX3_free 6 = .ok (.iload_n 1, 1) := by decide +kernel
theorem dX3_free_7 : decode cX3_free 7 = .ok (.invokevirtual 102, 3) := by decide +kernel
theorem dX3_free_10 : decode cX3_free 10 = .ok (.ifCond .ne 9, 3) := by decide +kernel
theorem dX3_free_13 : decode cX3_free 13 = .ok (.aload_n 0, 1) := by decide +kernel
theorem dX3_free_14 : decode cX3_free 14 = .ok (.iconst 2, 1) := by decide +kernel
theorem dX3_free_15 : decode cX3_free 15 = .ok (.invokevirtual 92, 3) := by decide +kernel
theorem dX3_free_18 : decode cX3_free 18 = .ok (.ireturn, 1) := by decide +kernel
theorem dX3_free_19 : decode cX3_free 19 = .ok (.aload_n 0, 1) := by decide +kernel
theorem dX3_free_20 : decode cX3_free 20 = .ok (.iload_n 1, 1) := by decide +kernel
theorem dX3_free_21 : decode cX3_free 21 = .ok (.invokevirtual 106, 3) := by decide +kernel
theorem dX3_free_24 : decode cX3_free 24 = .ok (.ifCond .le 9, 3) := by decide +kernel
theorem dX3_free_27 : decode cX3_free 27 = .ok (.aload_n 0, 1) := by decide +kernel
theorem dX3_free_28 : decode cX3_free 28 = .ok (.iconst 4, 1) := by decide +kernel
theorem dX3_free_29 : decode cX3_free 29 = .ok (.invokevirtual 92, 3) := by decide +kernel
theorem dX3_free_32 : decode cX3_free 32 = .ok (.ireturn, 1) := by decide +kernel
theorem dX3_free_33 : decode cX3_free 33 = .ok (.aload_n 0, 1) := by decide +kernel
theorem dX3_free_34 : decode cX3_free 34 = .ok (.iconst 0, 1) := by decide +kernel
theorem dX3_free_35 : decode cX3_free 35 = .ok (.putfield 51, 3) := by decide +kernel
theorem dX3_free_38 : decode cX3_free 38 = .ok (.aload_n 0, 1) := by decide +kernel
theorem dX3_free_39 : decode cX3_free 39 = .ok (.iload_n 1, 1) := by decide +kernel
theorem dX3_free_40 : decode cX3_free 40 = .ok (.invokevirtual 109, 3) := by decide +kernel
theorem dX3_free_43 : decode cX3_free 43 = .ok (.ireturn, 1) := by decide +kernel
set_option maxRecDepth 20000 in
theorem ggX3_put_X3_isBlock : GoodIn wsX3_put wsX3_isBlock := goodIn_r _ [7, 8, 9, 10, 11, 6, 12, 33, 34, 35, 36, 37, 38, 39, 40, 41, 42, 43, 44, 45, 46, 47, 48, 49, 50] (by decide +kernel) (by decide +kernel)
set_option maxRecDepth 20000 in
theorem gX3_put_X3_isBlock : GoodIn wsX3_put (wsV RX3 102 RX3 yX3_isBlock wsX3_isBlock) := goodIn_app (goodIn_of _ (by decide +kernel)) ggX3_put_X3_isBlock
set_option maxRecDepth 20000 in
theorem ggX3_put_X3_refsAt : GoodIn wsX3_put wsX3_refsAt := goodIn_r _ [16, 17, 33, 34, 35, 36, 37, 38, 39, 40, 41, 42, 43, 44, 45, 46, 47, 48, 49, 50] (by decide +kernel) (by decide +kernel)
set_option maxRecDepth 20000 in
theorem gX3_put_X3_refsAt : GoodIn wsX3_put (wsV RX3 62 RX3 yX3_refsAt wsX3_refsAt) := goodIn_app (goodIn_of _ (by decide +kernel)) ggX3_put_X3_refsAt
set_option maxRecDepth 20000 in
theorem ggX3_put_X3_sizeAt : GoodIn wsX3_put wsX3_sizeAt := goodIn_r _ [21, 17, 33, 34, 35, 36, 37, 38, 39, 40, 41, 42, 43, 44, 45, 46, 47, 48, 49, 50] (by decide +kernel) (by decide +kernel)
set_option maxRecDepth 20000 in
theorem gX3_put_X3_sizeAt : GoodIn wsX3_put (wsV RX3 58 RX3 yX3_sizeAt wsX3_sizeAt) := goodIn_app (goodIn_of _ (by decide +kernel)) ggX3_put_X3_sizeAt
set_option maxRecDepth 20000 in
theorem ggX3_put_X3_is : GoodIn wsX3_put wsX3_is := goodIn_r _ [12] (by decide +kernel) (by decide +kernel)
set_option maxRecDepth 20000 in
theorem gX3_put_X3_is : GoodIn wsX3_put (wsV RX3 69 RX3 yX3_is wsX3_is) := goodIn_app (goodIn_of _ (by decide +kernel)) ggX3_put_X3_is
set_option maxRecDepth 20000 in
theorem ggX3_put_X3_not : GoodIn wsX3_put wsX3_not := goodIn_r _ [25, 2, 33, 34, 35, 36, 37, 38, 39, 40, 41, 42, 43, 44, 45, 46, 47, 48, 49, 50] (by decide +kernel) (by decide +kernel)
set_option maxRecDepth 20000 in
theorem gX3_put_X3_not : GoodIn wsX3_put (wsV RX3 112 RX3 yX3_not wsX3_not) := goodIn_app (goodIn_of _ (by decide +kernel)) ggX3_put_X3_not
set_option maxRecDepth 20000 in
theorem ggX3_put_X3_write : GoodIn wsX3_put wsX3_write := goodIn_r _ [29, 17, 30, 31, 32, 33, 34, 35, 36, 37, 38, 39, 40, 41, 42, 43, 44, 45, 46, 47, 48, 49, 50] (by decide +kernel) (by decide +kernel)
set_option maxRecDepth 20000 in
theorem gX3_put_X3_write : GoodIn wsX3_put (wsV RX3 98 RX3 yX3_write wsX3_write) := goodIn_app (goodIn_of _ (by decide +kernel)) ggX3_put_X3_write
theorem dX3_put_0 : decode cX3_put 0 = .ok (.aload_n 0, 1) := by decide +kernel
theorem dX3_put_1 : decode cX3_put 1 = .ok (.iconst 0, 1) := by decide +kernel
theorem dX3_put_2 : decode cX3_put 2 = .ok (.putfield 47, 3) := by decide +kernel
theorem dX3_put_5 : decode cX3_put 5 = .ok (.aload_n 0, 1) := by decide +kernel
theorem dX3_put_6 : decode cX3_put 6 = .ok (.iload_n 1, 1) := by decide +kernel
theorem dX3_put_7 : decode cX3_put 7 = .ok (.invokevirtual 102, 3) := by decide +kernel
theorem dX3_put_10 : decode cX3_put 10 = .ok (.ifCond .eq 23, 3) := by decide +kernel
theorem dX3_put_13 : decode cX3_put 13 = .ok (.aload_n 0, 1) := by decide +kernel
theorem dX3_put_14 : decode cX3_put 14 = .ok (.iload_n 2, 1) := by decide +kernel
theorem dX3_put_15 : decode cX3_put 15 = .ok (.aload_n 0, 1) := by decide +kernel
theorem dX3_put_16 : decode cX3_put 16 = .ok (.iload_n 1, 1) := by decide +kernel
theorem dX3_put_17 : decode cX3_put 17 = .ok (.invokevirtual 62, 3) := by decide +kernel
theorem dX3_put_20 : decode cX3_put 20 = .ok (.aload_n 0, 1) := by decide +kernel
theorem dX3_put_21 : decode cX3_put 21 = .ok (.iload_n 1, 1) := by decide +kernel
theorem dX3_put_22 : decode cX3_put 22 = .ok (.invokevirtual 58, 3) := by decide +kernel
theorem dX3_put_25 : decode cX3_put 25 = .ok (.iconst 1, 1) := by decide +kernel
theorem dX3_put_26 : decode cX3_put 26 = .ok (.isub, 1) := by decide +kernel
theorem dX3_put_27 : decode cX3_put 27 = .ok (.invokevirtual 69, 3) := by decide +kernel
theorem dX3_put_30 : decode cX3_put 30 = .ok (.ifCond .ne 9, 3) := by decide +kernel
theorem dX3_put_33 : decode cX3_put 33 = .ok (.aload_n 0, 1) := by decide +kernel
theorem dX3_put_34 : decode cX3_put 34 = .ok (.iconst 2, 1) := by decide +kernel
theorem dX3_put_35 : decode cX3_put 35 = .ok (.invokevirtual 112, 3) := by decide +kernel
theorem dX3_put_38 : decode cX3_put 38 = .ok (.ireturn, 1) := by decide +kernel
theorem dX3_put_39 : decode cX3_put 39 = .ok (.aload_n 0, 1) := by decide +kernel
theorem dX3_put_40 : decode cX3_put 40 = .ok (.iload_n 1, 1) := by decide +kernel
theorem dX3_put_41 : decode cX3_put 41 = .ok (.iconst 1, 1) := by decide +kernel
theorem dX3_put_42 : decode cX3_put 42 = .ok (.iadd, 1) := by decide +kernel
theorem dX3_put_43 : decode cX3_put 43 = .ok (.iload_n 2, 1) := by decide +kernel
theorem dX3_put_44 : decode cX3_put 44 = .ok (.iadd, 1) := by decide +kernel
theorem dX3_put_45 : decode cX3_put 45 = .ok (.iload_n 3, 1) := by decide +kernel
theorem dX3_put_46 : decode cX3_put 46 = .ok (.invokevirtual 98, 3) := by decide +kernel
theorem dX3_put_49 : decode cX3_put 49 = .ok (.aload_n 0, 1) := by decide +kernel
theorem dX3_put_50 : decode cX3_put 50 = .ok (.iconst 0, 1) := by decide +kernel
theorem dX3_put_51 : decode cX3_put 51 = .ok (.putfield 51, 3) := by decide +kernel
theorem dX3_put_54 : decode cX3_put 54 = .ok (.iconst 1, 1) := by decide +kernel
theorem dX3_put_55 : decode cX3_put 55 = .ok (.ireturn, 1) := by decide +kernel
set_option maxRecDepth 20000 in
theorem ggX3_refer_X3_isBlock : GoodIn wsX3_refer wsX3_isBlock := goodIn_r _ [7, 8, 9, 10, 11, 6, 12, 29, 30, 31, 32, 33, 34, 35, 36, 37, 38, 39, 40, 41, 42, 43, 44, 45, 46] (by decide +kernel) (by decide +kernel)
set_option maxRecDepth 20000 in
theorem gX3_refer_X3_isBlock : GoodIn wsX3_refer (wsV RX3 102 RX3 yX3_isBlock wsX3_isBlock) := goodIn_app (goodIn_of _ (by decide +kernel)) ggX3_refer_X3_isBlock
set_option maxRecDepth 20000 in
theorem ggX3_refer_X3_refsAt : GoodIn wsX3_refer wsX3_refsAt := goodIn_r _ [16, 17, 29, 30, 31, 32, 33, 34, 35, 36, 37, 38, 39, 40, 41, 42, 43, 44, 45, 46] (by decide +kernel) (by decide +kernel)
set_option maxRecDepth 20000 in
theorem gX3_refer_X3_refsAt : GoodIn wsX3_refer (wsV RX3 62 RX3 yX3_refsAt wsX3_refsAt) := goodIn_app (goodIn_of _ (by decide +kernel)) ggX3_refer_X3_refsAt
set_option maxRecDepth 20000 in
theorem ggX3_refer_X3_is : GoodIn wsX3_refer wsX3_is := goodIn_r _ [12] (by decide +kernel) (by decide +kernel)
set_option maxRecDepth 20000 in
theorem gX3_refer_X3_is : GoodIn wsX3_refer (wsV RX3 69 RX3 yX3_is wsX3_is) := goodIn_app (goodIn_of _ (by decide +kernel)) ggX3_refer_X3_is
set_option maxRecDepth 20000 in
theorem ggX3_refer_X3_not : GoodIn wsX3_refer wsX3_not := goodIn_r _ [21, 2, 29, 30, 31, 32, 33, 34, 35, 36, 37, 38, 39, 40, 41, 42, 43, 44, 45, 46] (by decide +kernel) (by decide +kernel)
set_option maxRecDepth 20000 in
theorem gX3_refer_X3_not : GoodIn wsX3_refer (wsV RX3 112 RX3 yX3_not wsX3_not) := goodIn_app (goodIn_of _ (by decide +kernel)) ggX3_refer_X3_not
set_option maxRecDepth 20000 in
theorem ggX3_refer_X3_write : GoodIn wsX3_refer wsX3_write := goodIn_r _ [25, 17, 26, 27, 28, 29, 30, 31, 32, 33, 34, 35, 36, 37, 38, 39, 40, 41, 42, 43, 44, 45, 46] (by decide +kernel) (by decide +kernel)
set_option maxRecDepth 20000 in
theorem gX3_refer_X3_write : GoodIn wsX3_refer (wsV RX3 98 RX3 yX3_write wsX3_write) := goodIn_app (goodIn_of _ (by decide +kernel)) ggX3_refer_X3_write
theorem dX3_refer_0 : decode cX3_refer 0 = .ok (.aload_n 0, 1) := by decide +kernel
theorem dX3_refer_1 : decode cX3_refer 1 = .ok (.iconst 0, 1) := by decide +kernel
theorem dX3_refer_2 : decode cX3_refer 2 = .ok (.putfield 47, 3) := by decide +kernel
theorem dX3_refer_5 : decode cX3_refer 5 = .ok (.aload_n 0, 1) := by decide +kernel
theorem dX3_refer_6 : decode cX3_refer 6 = .ok (.iload_n 1, 1) := by decide +kernel
theorem dX3_refer_7 : decode cX3_refer 7 = .ok (.invokevirtual 102, 3) := by decide +kernel
theorem dX3_refer_10 : decode cX3_refer 10 = .ok (.ifCond .eq 31, 3) := by decide +kernel
theorem dX3_refer_13 : decode cX3_refer 13 = .ok (.aload_n 0, 1) := by decide +kernel
theorem dX3_refer_14 : decode cX3_refer 14 = .ok (.iload_n 2, 1) := by decide +kernel
theorem dX3_refer_15 : decode cX3_refer 15 = .ok (.iconst 0, 1) := by decide +kernel
theorem dX3_refer_16 : decode cX3_refer 16 = .ok (.aload_n 0, 1) := by decide +kernel
theorem dX3_refer_17 : decode cX3_refer 17 = .ok (.iload_n 1, 1) := by decide +kernel
theorem dX3_refer_18 : decode cX3_refer 18 = .ok (.invokevirtual 62, 3) := by decide +kernel
theorem dX3_refer_21 : decode cX3_refer 21 = .ok (.iconst 1, 1) := by decide +kernel
theorem dX3_refer_22 : decode cX3_refer 22 = .ok (.isub, 1) := by decide +kernel
theorem dX3_refer_23 : decode cX3_refer 23 = .ok (.invokevirtual 69, 3) := by decide +kernel
theorem dX3_refer_26 : decode cX3_refer 26 = .ok (.ifCond .eq 15, 3) := by decide +kernel
theorem dX3_refer_29 : decode cX3_refer 29 = .ok (.iload_n 3, 1) := by decide +kernel
theorem dX3_refer_30 : decode cX3_refer 30 = .ok (.ifCond .eq 17, 3) := by decide +kernel
theorem dX3_refer_33 : decode cX3_refer 33 = .ok (.aload_n 0, 1) := by decide +kernel
theorem dX3_refer_34 : decode cX3_refer 34 = .ok (.iload_n 3, 1) := by decide +kernel
theorem dX3_refer_35 : decode cX3_refer 35 = .ok (.invokevirtual 102, 3) := by decide +kernel
theorem dX3_refer_38 : decode cX3_refer 38 = .ok (.ifCond .ne 9, 3) := by decide +kernel
theorem dX3_refer_41 : decode cX3_refer 41 = .ok (.aload_n 0, 1) := by decide +kernel
theorem dX3_refer_42 : decode cX3_refer 42 = .ok (.iconst 2, 1) := by decide +kernel
theorem dX3_refer_43 : decode cX3_refer 43 = .ok (.invokevirtual 112, 3) := by decide +kernel
theorem dX3_refer_46 : decode cX3_refer 46 = .ok (.ireturn, 1) := by decide +kernel
theorem dX3_refer_47 : decode cX3_refer 47 = .ok (.aload_n 0, 1) := by decide +kernel
theorem dX3_refer_48 : decode cX3_refer 48 = .ok (.iload_n 1, 1) := by decide +kernel
theorem dX3_refer_49 : decode cX3_refer 49 = .ok (.iconst 1, 1) := by decide +kernel
theorem dX3_refer_50 : decode cX3_refer 50 = .ok (.iadd, 1) := by decide +kernel
theorem dX3_refer_51 : decode cX3_refer 51 = .ok (.iload_n 2, 1) := by decide +kernel
theorem dX3_refer_52 : decode cX3_refer 52 = .ok (.iadd, 1) := by decide +kernel
theorem dX3_refer_53 : decode cX3_refer 53 = .ok (.iload_n 3, 1) := by decide +kernel
theorem dX3_refer_54 : decode cX3_refer 54 = .ok (.invokevirtual 98, 3) := by decide +kernel
theorem dX3_refer_57 : decode cX3_refer 57 = .ok (.aload_n 0, 1) := by decide +kernel
theorem dX3_refer_58 : decode cX3_refer 58 = .ok (.iconst 0, 1) := by decide +kernel
theorem dX3_refer_59 : decode cX3_refer 59 = .ok (.putfield 51, 3) := by decide +kernel
theorem dX3_refer_62 : decode cX3_refer 62 = .ok (.iconst 1, 1) := by decide +kernel
theorem dX3_refer_63 : decode cX3_refer 63 = .ok (.ireturn, 1) := by decide +kernel
set_option maxRecDepth 20000 in
theorem ggX3_get_X3_isBlock : GoodIn wsX3_get wsX3_isBlock := goodIn_r _ [7, 8, 9, 10, 11, 6, 12, 17, 18, 19, 20, 21, 22, 23, 24, 25, 26, 27, 28, 29, 30, 31, 32, 33, 34] (by decide +kernel) (by decide +kernel)
set_option maxRecDepth 20000 in
theorem gX3_get_X3_isBlock : GoodIn wsX3_get (wsV RX3 102 RX3 yX3_isBlock wsX3_isBlock) := goodIn_app (goodIn_of _ (by decide +kernel)) ggX3_get_X3_isBlock
set_option maxRecDepth 20000 in
theorem ggX3_get_X3_sizeAt : GoodIn wsX3_get wsX3_sizeAt := goodIn_r _ [16, 2, 17, 18, 19, 20, 21, 22, 23, 24, 25, 26, 27, 28, 29, 30, 31, 32, 33, 34] (by decide +kernel) (by decide +kernel)
set_option maxRecDepth 20000 in
theorem gX3_get_X3_sizeAt : GoodIn wsX3_get (wsV RX3 58 RX3 yX3_sizeAt wsX3_sizeAt) := goodIn_app (goodIn_of _ (by decide +kernel)) ggX3_get_X3_sizeAt
set_option maxRecDepth 20000 in
theorem ggX3_get_X3_is : GoodIn wsX3_get wsX3_is := goodIn_r _ [12] (by decide +kernel) (by decide +kernel)
set_option maxRecDepth 20000 in
theorem gX3_get_X3_is : GoodIn wsX3_get (wsV RX3 69 RX3 yX3_is wsX3_is) := goodIn_app (goodIn_of _ (by decide +kernel)) ggX3_get_X3_is
theorem dX3_get_0 : decode cX3_get 0 = .ok (.aload_n 0, 1) := by decide +kernel
theorem dX3_get_1 : decode cX3_get 1 = .ok (.iconst 0, 1) := by decide +kernel
theorem dX3_get_2 : decode cX3_get 2 = .ok (.putfield 47, 3) := by decide +kernel
theorem dX3_get_5 : decode cX3_get 5 = .ok (.aload_n 0, 1) := by decide +kernel
theorem dX3_get_6 : decode cX3_get 6 = .ok (.iload_n 1, 1) := by decide +kernel
theorem dX3_get_7 : decode cX3_get 7 = .ok (.invokevirtual 102, 3) := by decide +kernel
theorem dX3_get_10 : decode cX3_get 10 = .ok (.ifCond .eq 32, 3) := by decide +kernel
theorem dX3_get_13 : decode cX3_get 13 = .ok (.aload_n 0, 1) := by decide +kernel
theorem dX3_get_14 : decode cX3_get 14 = .ok (.iload_n 2, 1) := by decide +kernel
theorem dX3_get_15 : decode cX3_get 15 = .ok (.iconst 0, 1) := by decide +kernel
theorem dX3_get_16 : decode cX3_get 16 = .ok (.aload_n 0, 1) := by decide +kernel
theorem dX3_get_17 : decode cX3_get 17 = .ok (.iload_n 1, 1) := by decide +kernel
theorem dX3_get_18 : decode cX3_get 18 = .ok (.invokevirtual 58, 3) := by decide +kernel
theorem dX3_get_21 : decode cX3_get 21 = .ok (.iconst 1, 1) := by decide +kernel
theorem dX3_get_22 : decode cX3_get 22 = .ok (.isub, 1) := by decide +kernel
theorem dX3_get_23 : decode cX3_get 23 = .ok (.invokevirtual 69, 3) := by decide +kernel
theorem dX3_get_26 : decode cX3_get 26 = .ok (.ifCond .eq 16, 3) := by decide +kernel
theorem dX3_get_29 : decode cX3_get 29 = .ok (.aload_n 0, 1) := by decide +kernel
theorem dX3_get_30 : decode cX3_get 30 = .ok (.getfield 7, 3) := by decide +kernel
theorem dX3_get_33 : decode cX3_get 33 = .ok (.iload_n 1, 1) := by decide +kernel
theorem dX3_get_34 : decode cX3_get 34 = .ok (.iconst 1, 1) := by decide +kernel
theorem dX3_get_35 : decode cX3_get 35 = .ok (.iadd, 1) := by decide +kernel
theorem dX3_get_36 : decode cX3_get 36 = .ok (.iload_n 2, 1) := by decide +kernel
theorem dX3_get_37 : decode cX3_get 37 = .ok (.iadd, 1) := by decide +kernel
theorem dX3_get_38 : decode cX3_get 38 = .ok (.iaload, 1) := by decide +kernel
theorem dX3_get_39 : decode cX3_get 39 = .ok (.goto 4, 3) := by decide +kernel
theorem dX3_get_42 : decode cX3_get 42 = .ok (.iconst 0, 1) := by decide +kernel
theorem dX3_get_43 : decode cX3_get 43 = .ok (.ireturn, 1) := by decide +kernel
set_option maxRecDepth 20000 in
theorem ggX3_root_X3_is : GoodIn wsX3_root wsX3_is := goodIn_r _ [7] (by decide +kernel) (by decide +kernel)
set_option maxRecDepth 20000 in
theorem gX3_root_X3_is : GoodIn wsX3_root (wsV RX3 69 RX3 yX3_is wsX3_is) := goodIn_app (goodIn_of _ (by decide +kernel)) ggX3_root_X3_is
set_option maxRecDepth 20000 in
theorem ggX3_root_X3_isBlock : GoodIn wsX3_root wsX3_isBlock := goodIn_r _ [11, 12, 3, 4, 5, 6, 7, 25, 26, 27, 28, 29, 30, 31, 32, 33, 34, 35, 36, 37, 38, 39, 40, 41, 42] (by decide +kernel) (by decide +kernel)
set_option maxRecDepth 20000 in
theorem gX3_root_X3_isBlock : GoodIn wsX3_root (wsV RX3 102 RX3 yX3_isBlock wsX3_isBlock) := goodIn_app (goodIn_of _ (by decide +kernel)) ggX3_root_X3_isBlock
set_option maxRecDepth 20000 in
theorem ggX3_root_X3_not : GoodIn wsX3_root wsX3_not := goodIn_r _ [16, 2, 25, 26, 27, 28, 29, 30, 31, 32, 33, 34, 35, 36, 37, 38, 39, 40, 41, 42] (by decide +kernel) (by decide +kernel)
set_option maxRecDepth 20000 in
theorem gX3_root_X3_not : GoodIn wsX3_root (wsV RX3 112 RX3 yX3_not wsX3_not) := goodIn_app (goodIn_of _ (by decide +kernel)) ggX3_root_X3_not
set_option maxRecDepth 20000 in
theorem ggX3_root_X3_write : GoodIn wsX3_root wsX3_write := goodIn_r _ [20, 21, 22, 23, 24, 25, 26, 27, 28, 29, 30, 31, 32, 33, 34, 35, 36, 37, 38, 39, 40, 41, 42] (by decide +kernel) (by decide +kernel)
set_option maxRecDepth 20000 in
theorem gX3_root_X3_write : GoodIn wsX3_root (wsV RX3 98 RX3 yX3_write wsX3_write) := goodIn_app (goodIn_of _ (by decide +kernel)) ggX3_root_X3_write
theorem dX3_root_0 : decode cX3_root 0 = .ok (.aload_n 0, 1) := by decide +kernel
theorem dX3_root_1 : decode cX3_root 1 = .ok (.iconst 0, 1) := by decide +kernel
theorem dX3_root_2 : decode cX3_root 2 = .ok (.putfield 47, 3) := by decide +kernel
theorem dX3_root_5 : decode cX3_root 5 = .ok (.aload_n 0, 1) := by decide +kernel
theorem dX3_root_6 : decode cX3_root 6 = .ok (.iload_n 1, 1) := by decide +kernel
theorem dX3_root_7 : decode cX3_root 7 = .ok (.iconst 0, 1) := by decide +kernel
theorem dX3_root_8 : decode cX3_root 8 = .ok (.bipush 7, 2) := by decide +kernel
theorem dX3_root_10 : decode cX3_root 10 = .ok (.invokevirtual 69, 3) := by decide +kernel
theorem dX3_root_13 : decode cX3_root 13 = .ok (.ifCond .eq 15, 3) := by decide +kernel
theorem dX3_root_16 : decode cX3_root 16 = .ok (.iload_n 2, 1) := by decide +kernel
theorem dX3_root_17 : decode cX3_root 17 = .ok (.ifCond .eq 17, 3) := by decide +kernel
theorem dX3_root_20 : decode cX3_root 20 = .ok (.aload_n 0, 1) := by decide +kernel
theorem dX3_root_21 : decode cX3_root 21 = .ok (.iload_n 2, 1) := by decide +kernel
theorem dX3_root_22 : decode cX3_root 22 = .ok (.invokevirtual 102, 3) := by decide +kernel
theorem dX3_root_25 : decode cX3_root 25 = .ok (.ifCond .ne 9, 3) := by decide +kernel
theorem dX3_root_28 : decode cX3_root 28 = .ok (.aload_n 0, 1) := by decide +kernel
theorem dX3_root_29 : decode cX3_root 29 = .ok (.iconst 2, 1) := by decide +kernel
theorem dX3_root_30 : decode cX3_root 30 = .ok (.invokevirtual 112, 3) := by decide +kernel
theorem dX3_root_33 : decode cX3_root 33 = .ok (.ireturn, 1) := by decide +kernel
theorem dX3_root_34 : decode cX3_root 34 = .ok (.aload_n 0, 1) := by decide +kernel
theorem dX3_root_35 : decode cX3_root 35 = .ok (.iconst 1, 1) := by decide +kernel
theorem dX3_root_36 : decode cX3_root 36 = .ok (.iload_n 1, 1) := by decide +kernel
theorem dX3_root_37 : decode cX3_root 37 = .ok (.iadd, 1) := by decide +kernel
theorem dX3_root_38 : decode cX3_root 38 = .ok (.iload_n 2, 1) := by decide +kernel
theorem dX3_root_39 : decode cX3_root 39 = .ok (.invokevirtual 98, 3) := by decide +kernel
theorem dX3_root_42 : decode cX3_root 42 = .ok (.aload_n 0, 1) := by decide +kernel
theorem dX3_root_43 : decode cX3_root 43 = .ok (.iconst 0, 1) := by decide +kernel
theorem dX3_root_44 : decode cX3_root 44 = .ok (.putfield 51, 3) := by decide +kernel
theorem dX3_root_47 : decode cX3_root 47 = .ok (.iconst 1, 1) := by decide +kernel
theorem dX3_root_48 : decode cX3_root 48 = .ok (.ireturn, 1) := by decide +kernel
set_option maxRecDepth 20000 in
theorem ggX3_rootOf_X3_is : GoodIn wsX3_rootOf wsX3_is := goodIn_r _ [7] (by decide +kernel) (by decide +kernel)
set_option maxRecDepth 20000 in
theorem gX3_rootOf_X3_is : GoodIn wsX3_rootOf (wsV RX3 69 RX3 yX3_is wsX3_is) := goodIn_app (goodIn_of _ (by decide +kernel)) ggX3_rootOf_X3_is
theorem dX3_rootOf_0 : decode cX3_rootOf 0 = .ok (.aload_n 0, 1) := by decide +kernel
theorem dX3_rootOf_1 : decode cX3_rootOf 1 = .ok (.iconst 0, 1) := by decide +kernel
theorem dX3_rootOf_2 : decode cX3_rootOf 2 = .ok (.putfield 47, 3) := by decide +kernel
theorem dX3_rootOf_5 : decode cX3_rootOf 5 = .ok (.aload_n 0, 1) := by decide +kernel
theorem dX3_rootOf_6 : decode cX3_rootOf 6 = .ok (.iload_n 1, 1) := by decide +kernel
theorem dX3_rootOf_7 : decode cX3_rootOf 7 = .ok (.iconst 0, 1) := by decide +kernel
theorem dX3_rootOf_8 : decode cX3_rootOf 8 = .ok (.bipush 7, 2) := by decide +kernel
theorem dX3_rootOf_10 : decode cX3_rootOf 10 = .ok (.invokevirtual 69, 3) := by decide +kernel
theorem dX3_rootOf_13 : decode cX3_rootOf 13 = .ok (.ifCond .eq 14, 3) := by decide +kernel
theorem dX3_rootOf_16 : decode cX3_rootOf 16 = .ok (.aload_n 0, 1) := by decide +kernel
theorem dX3_rootOf_17 : decode cX3_rootOf 17 = .ok (.getfield 7, 3) := by decide +kernel
theorem dX3_rootOf_20 : decode cX3_rootOf 20 = .ok (.iconst 1, 1) := by decide +kernel
theorem dX3_rootOf_21 : decode cX3_rootOf 21 = .ok (.iload_n 1, 1) := by decide +kernel
theorem dX3_rootOf_22 : decode cX3_rootOf 22 = .ok (.iadd, 1) := by decide +kernel
theorem dX3_rootOf_23 : decode cX3_rootOf 23 = .ok (.iaload, 1) := by decide +kernel
theorem dX3_rootOf_24 : decode cX3_rootOf 24 = .ok (.goto 4, 3) := by decide +kernel
theorem dX3_rootOf_27 : decode cX3_rootOf 27 = .ok (.iconst (-1), 1) := by decide +kernel
theorem dX3_rootOf_28 : decode cX3_rootOf 28 = .ok (.ireturn, 1) := by decide +kernel
theorem dX3_keepLine_0 : decode cX3_keepLine 0 = .ok (.bipush 8, 2) := by decide +kernel
theorem dX3_keepLine_2 : decode cX3_keepLine 2 = .ok (.iload_n 1, 1) := by decide +kernel
theorem dX3_keepLine_3 : decode cX3_keepLine 3 = .ok (.imul, 1) := by decide +kernel
theorem dX3_keepLine_4 : decode cX3_keepLine 4 = .ok (.istore_n 2, 1) := by decide +kernel
theorem dX3_keepLine_5 : decode cX3_keepLine 5 = .ok (.iload_n 2, 1) := by decide +kernel
theorem dX3_keepLine_6 : decode cX3_keepLine 6 = .ok (.bipush 8, 2) := by decide +kernel
theorem dX3_keepLine_8 : decode cX3_keepLine 8 = .ok (.iload_n 1, 1) := by decide +kernel
theorem dX3_keepLine_9 : decode cX3_keepLine 9 = .ok (.imul, 1) := by decide +kernel
theorem dX3_keepLine_10 : decode cX3_keepLine 10 = .ok (.bipush 8, 2) := by decide +kernel
theorem dX3_keepLine_12 : decode cX3_keepLine 12 = .ok (.iadd, 1) := by decide +kernel
theorem dX3_keepLine_13 : decode cX3_keepLine 13 = .ok (.if_icmp .ge 21, 3) := by decide +kernel
theorem dX3_keepLine_16 : decode cX3_keepLine 16 = .ok (.aload_n 0, 1) := by decide +kernel
theorem dX3_keepLine_17 : decode cX3_keepLine 17 = .ok (.getfield 13, 3) := by decide +kernel
theorem dX3_keepLine_20 : decode cX3_keepLine 20 = .ok (.iload_n 2, 1) := by decide +kernel
theorem dX3_keepLine_21 : decode cX3_keepLine 21 = .ok (.aload_n 0, 1) := by decide +kernel
theorem dX3_keepLine_22 : decode cX3_keepLine 22 = .ok (.getfield 7, 3) := by decide +kernel
theorem dX3_keepLine_25 : decode cX3_keepLine 25 = .ok (.iload_n 2, 1) := by decide +kernel
theorem dX3_keepLine_26 : decode cX3_keepLine 26 = .ok (.iaload, 1) := by decide +kernel
theorem dX3_keepLine_27 : decode cX3_keepLine 27 = .ok (.iastore, 1) := by decide +kernel
theorem dX3_keepLine_28 : decode cX3_keepLine 28 = .ok (.iinc 2 1, 3) := by decide +kernel
theorem dX3_keepLine_31 : decode cX3_keepLine 31 = .ok (.goto (-26), 3) := by decide +kernel
theorem dX3_keepLine_34 : decode cX3_keepLine 34 = .ok (.return_, 1) := by decide +kernel
theorem dX3_nothingWaits_0 : decode cX3_nothingWaits 0 = .ok (.iconst 0, 1) := by decide +kernel
theorem dX3_nothingWaits_1 : decode cX3_nothingWaits 1 = .ok (.istore_n 1, 1) := by decide +kernel
theorem dX3_nothingWaits_2 : decode cX3_nothingWaits 2 = .ok (.iload_n 1, 1) := by decide +kernel
theorem dX3_nothingWaits_3 : decode cX3_nothingWaits 3 = .ok (.sipush 512, 3) := by decide +kernel
theorem dX3_nothingWaits_6 : decode cX3_nothingWaits 6 = .ok (.if_icmp .ge 16, 3) := by decide +kernel
theorem dX3_nothingWaits_9 : decode cX3_nothingWaits 9 = .ok (.aload_n 0, 1) := by decide +kernel
theorem dX3_nothingWaits_10 : decode cX3_nothingWaits 10 = .ok (.getfield 20, 3) := by decide +kernel
theorem dX3_nothingWaits_13 : decode cX3_nothingWaits 13 = .ok (.iload_n 1, 1) := by decide +kernel
theorem dX3_nothingWaits_14 : decode cX3_nothingWaits 14 = .ok (.iconst 0, 1) := by decide +kernel
theorem dX3_nothingWaits_15 : decode cX3_nothingWaits 15 = .ok (.bastore, 1) := by decide +kernel
theorem dX3_nothingWaits_16 : decode cX3_nothingWaits 16 = .ok (.iinc 1 1, 3) := by decide +kernel
theorem dX3_nothingWaits_19 : decode cX3_nothingWaits 19 = .ok (.goto (-17), 3) := by decide +kernel
theorem dX3_nothingWaits_22 : decode cX3_nothingWaits 22 = .ok (.aload_n 0, 1) := by decide +kernel
theorem dX3_nothingWaits_23 : decode cX3_nothingWaits 23 = .ok (.iconst 0, 1) := by decide +kernel
theorem dX3_nothingWaits_24 : decode cX3_nothingWaits 24 = .ok (.putfield 54, 3) := by decide +kernel
theorem dX3_nothingWaits_27 : decode cX3_nothingWaits 27 = .ok (.return_, 1) := by decide +kernel
set_option maxRecDepth 20000 in
theorem ggX3_fence_X3_keepLine : GoodIn wsX3_fence wsX3_keepLine := goodIn_r _ [8, 9, 10, 16, 17, 18, 19, 20, 21, 22, 23, 24, 25, 26, 27, 28, 29, 30, 31, 32, 33] (by decide +kernel) (by decide +kernel)
set_option maxRecDepth 20000 in
theorem gX3_fence_X3_keepLine : GoodIn wsX3_fence (wsV RX3 115 RX3 yX3_keepLine wsX3_keepLine) := goodIn_app (goodIn_of _ (by decide +kernel)) ggX3_fence_X3_keepLine
set_option maxRecDepth 20000 in
theorem ggX3_fence_X3_nothingWaits : GoodIn wsX3_fence wsX3_nothingWaits := goodIn_r _ [14, 15, 2, 16, 17, 18, 19, 20, 21, 22, 23, 24, 25, 26, 27, 28, 29, 30, 31, 32, 33] (by decide +kernel) (by decide +kernel)
set_option maxRecDepth 20000 in
theorem gX3_fence_X3_nothingWaits : GoodIn wsX3_fence (wsV RX3 119 RX3 yX3_nothingWaits wsX3_nothingWaits) := goodIn_app (goodIn_of _ (by decide +kernel)) ggX3_fence_X3_nothingWaits
theorem dX3_fence_0 : decode cX3_fence 0 = .ok (.aload_n 0, 1) := by decide +kernel
theorem dX3_fence_1 : decode cX3_fence 1 = .ok (.iconst 0, 1) := by decide +kernel
theorem dX3_fence_2 : decode cX3_fence 2 = .ok (.putfield 47, 3) := by decide +kernel
theorem dX3_fence_5 : decode cX3_fence 5 = .ok (.aload_n 0, 1) := by decide +kernel
theorem dX3_fence_6 : decode cX3_fence 6 = .ok (.getfield 54, 3) := by decide +kernel
theorem dX3_fence_9 : decode cX3_fence 9 = .ok (.istore_n 1, 1) := by decide +kernel
theorem dX3_fence_10 : decode cX3_fence 10 = .ok (.iconst 0, 1) := by decide +kernel
theorem dX3_fence_11 : decode cX3_fence 11 = .ok (.istore_n 2, 1) := by decide +kernel
theorem dX3_fence_12 : decode cX3_fence 12 = .ok (.iload_n 2, 1) := by decide +kernel
theorem dX3_fence_13 : decode cX3_fence 13 = .ok (.aload_n 0, 1) := by decide +kernel
theorem dX3_fence_14 : decode cX3_fence 14 = .ok (.getfield 54, 3) := by decide +kernel
theorem dX3_fence_17 : decode cX3_fence 17 = .ok (.if_icmp .ge 19, 3) := by decide +kernel
theorem dX3_fence_20 : decode cX3_fence 20 = .ok (.aload_n 0, 1) := by decide +kernel
theorem dX3_fence_21 : decode cX3_fence 21 = .ok (.aload_n 0, 1) := by decide +kernel
theorem dX3_fence_22 : decode cX3_fence 22 = .ok (.getfield 23, 3) := by decide +kernel
theorem dX3_fence_25 : decode cX3_fence 25 = .ok (.iload_n 2, 1) := by decide +kernel
theorem dX3_fence_26 : decode cX3_fence 26 = .ok (.iaload, 1) := by decide +kernel
theorem dX3_fence_27 : decode cX3_fence 27 = .ok (.invokevirtual 115, 3) := by decide +kernel
theorem dX3_fence_30 : decode cX3_fence 30 = .ok (.iinc 2 1, 3) := by decide +kernel
theorem dX3_fence_33 : decode cX3_fence 33 = .ok (.goto (-21), 3) := by decide +kernel
theorem dX3_fence_36 : decode cX3_fence 36 = .ok (.aload_n 0, 1) := by decide +kernel
theorem dX3_fence_37 : decode cX3_fence 37 = .ok (.invokevirtual 119, 3) := by decide +kernel
theorem dX3_fence_40 : decode cX3_fence 40 = .ok (.iload_n 1, 1) := by decide +kernel
theorem dX3_fence_41 : decode cX3_fence 41 = .ok (.ireturn, 1) := by decide +kernel
set_option maxRecDepth 20000 in
theorem ggX3_crash_X3_keepLine : GoodIn wsX3_crash wsX3_keepLine := goodIn_r _ [15, 5, 4, 79, 80, 81, 82, 83, 84, 85, 86, 87, 88, 89, 90, 91, 92, 93, 94, 95, 96] (by decide +kernel) (by decide +kernel)
set_option maxRecDepth 20000 in
theorem gX3_crash_X3_keepLine : GoodIn wsX3_crash (wsV RX3 115 RX3 yX3_keepLine wsX3_keepLine) := goodIn_app (goodIn_of _ (by decide +kernel)) ggX3_crash_X3_keepLine
set_option maxRecDepth 20000 in
theorem ggX3_crash_X3_nothingWaits : GoodIn wsX3_crash wsX3_nothingWaits := goodIn_r _ [19, 20, 2, 79, 80, 81, 82, 83, 84, 85, 86, 87, 88, 89, 90, 91, 92, 93, 94, 95, 96] (by decide +kernel) (by decide +kernel)
set_option maxRecDepth 20000 in
theorem gX3_crash_X3_nothingWaits : GoodIn wsX3_crash (wsV RX3 119 RX3 yX3_nothingWaits wsX3_nothingWaits) := goodIn_app (goodIn_of _ (by decide +kernel)) ggX3_crash_X3_nothingWaits
set_option maxRecDepth 20000 in
theorem ggX3_crash_X3_look : GoodIn wsX3_crash wsX3_look := goodIn_r _ [24, 4, 6, 10, 9, 8, 25, 26, 27, 14, 28, 29, 30, 31, 32, 33, 34, 35, 36, 37, 38, 39, 40, 41, 42, 43, 44, 45, 46, 47, 48, 49, 50, 51, 52, 53, 54, 55, 56, 57, 58, 59, 60, 61, 62, 63, 64, 65, 66, 67, 68, 69, 70, 71, 72, 73, 74, 75, 76, 77, 78, 20, 3, 2, 79, 80, 81, 82, 83, 84, 85, 86, 87, 88, 89, 90, 91, 92, 93, 94, 95, 96] (by decide +kernel) (by decide +kernel)
set_option maxRecDepth 20000 in
theorem gX3_crash_X3_look : GoodIn wsX3_crash (wsV RX3 131 RX3 yX3_look wsX3_look) := goodIn_app (goodIn_of _ (by decide +kernel)) ggX3_crash_X3_look
set_option maxRecDepth 20000 in
theorem ggX3_crash_X3_refsAt : GoodIn wsX3_crash wsX3_refsAt := goodIn_r _ [50, 4, 79, 80, 81, 82, 83, 84, 85, 86, 87, 88, 89, 90, 91, 92, 93, 94, 95, 96] (by decide +kernel) (by decide +kernel)
set_option maxRecDepth 20000 in
theorem gX3_crash_X3_refsAt : GoodIn wsX3_crash (wsV RX3 62 RX3 yX3_refsAt wsX3_refsAt) := goodIn_app (goodIn_of _ (by decide +kernel)) ggX3_crash_X3_refsAt
theorem dX3_crash_0 : decode cX3_crash 0 = .ok (.aload_n 0, 1) := by decide +kernel
theorem dX3_crash_1 : decode cX3_crash 1 = .ok (.iconst 0, 1) := by decide +kernel
theorem dX3_crash_2 : decode cX3_crash 2 = .ok (.putfield 47, 3) := by decide +kernel
theorem dX3_crash_5 : decode cX3_crash 5 = .ok (.iconst 0, 1) := by decide +kernel
theorem dX3_crash_6 : decode cX3_crash 6 = .ok (.istore_n 2, 1) := by decide +kernel
theorem dX3_crash_7 : decode cX3_crash 7 = .ok (.iload_n 2, 1) := by decide +kernel
theorem dX3_crash_8 : decode cX3_crash 8 = .ok (.aload_n 0, 1) := by decide +kernel
theorem dX3_crash_9 : decode cX3_crash 9 = .ok (.getfield 54, 3) := by decide +kernel
theorem dX3_crash_12 : decode cX3_crash 12 = .ok (.if_icmp .ge 31, 3) := by decide +kernel
theorem dX3_crash_15 : decode cX3_crash 15 = .ok (.iload_n 1, 1) := by decide +kernel
theorem dX3_crash_16 : decode cX3_crash 16 = .ok (.iload_n 2, 1) := by decide +kernel
theorem dX3_crash_17 : decode cX3_crash 17 = .ok (.bipush 32, 2) := by decide +kernel
theorem dX3_crash_19 : decode cX3_crash 19 = .ok (.irem, 1) := by decide +kernel
theorem dX3_crash_20 : decode cX3_crash 20 = .ok (.ishr, 1) := by decide +kernel
theorem dX3_crash_21 : decode cX3_crash 21 = .ok (.iconst 1, 1) := by decide +kernel
theorem dX3_crash_22 : decode cX3_crash 22 = .ok (.iand, 1) := by decide +kernel
theorem dX3_crash_23 : decode cX3_crash 23 = .ok (.iconst 1, 1) := by decide +kernel
theorem dX3_crash_24 : decode cX3_crash 24 = .ok (.if_icmp .ne 13, 3) := by decide +kernel
theorem dX3_crash_27 : decode cX3_crash 27 = .ok (.aload_n 0, 1) := by decide +kernel
theorem dX3_crash_28 : decode cX3_crash 28 = .ok (.aload_n 0, 1) := by decide +kernel
theorem dX3_crash_29 : decode cX3_crash 29 = .ok (.getfield 23, 3) := by decide +kernel
theorem dX3_crash_32 : decode cX3_crash 32 = .ok (.iload_n 2, 1) := by decide +kernel
theorem dX3_crash_33 : decode cX3_crash 33 = .ok (.iaload, 1) := by decide +kernel
theorem dX3_crash_34 : decode cX3_crash 34 = .ok (.invokevirtual 115, 3) := by decide +kernel
theorem dX3_crash_37 : decode cX3_crash 37 = .ok (.iinc 2 1, 3) := by decide +kernel
theorem dX3_crash_40 : decode cX3_crash 40 = .ok (.goto (-33), 3) := by decide +kernel
theorem dX3_crash_43 : decode cX3_crash 43 = .ok (.iconst 0, 1) := by decide +kernel
theorem dX3_crash_44 : decode cX3_crash 44 = .ok (.istore_n 2, 1) := by decide +kernel
theorem dX3_crash_45 : decode cX3_crash 45 = .ok (.iload_n 2, 1) := by decide +kernel
theorem dX3_crash_46 : decode cX3_crash 46 = .ok (.sipush 4096, 3) := by decide +kernel
theorem dX3_crash_49 : decode cX3_crash 49 = .ok (.if_icmp .ge 28, 3) := by decide +kernel
theorem dX3_crash_52 : decode cX3_crash 52 = .ok (.aload_n 0, 1) := by decide +kernel
theorem dX3_crash_53 : decode cX3_crash 53 = .ok (.getfield 7, 3) := by decide +kernel
theorem dX3_crash_56 : decode cX3_crash 56 = .ok (.iload_n 2, 1) := by decide +kernel
theorem dX3_crash_57 : decode cX3_crash 57 = .ok (.aload_n 0, 1) := by decide +kernel
theorem dX3_crash_58 : decode cX3_crash 58 = .ok (.getfield 13, 3) := by decide +kernel
theorem dX3_crash_61 : decode cX3_crash 61 = .ok (.iload_n 2, 1) := by decide +kernel
theorem dX3_crash_62 : decode cX3_crash 62 = .ok (.iaload, 1) := by decide +kernel
theorem dX3_crash_63 : decode cX3_crash 63 = .ok (.iastore, 1) := by decide +kernel
theorem dX3_crash_64 : decode cX3_crash 64 = .ok (.aload_n 0, 1) := by decide +kernel
theorem dX3_crash_65 : decode cX3_crash 65 = .ok (.getfield 16, 3) := by decide +kernel
theorem dX3_crash_68 : decode cX3_crash 68 = .ok (.iload_n 2, 1) := by decide +kernel
theorem dX3_crash_69 : decode cX3_crash 69 = .ok (.iconst 0, 1) := by decide +kernel
theorem dX3_crash_70 : decode cX3_crash 70 = .ok (.bastore, 1) := by decide +kernel
theorem dX3_crash_71 : decode cX3_crash 71 = .ok (.iinc 2 1, 3) := by decide +kernel
theorem dX3_crash_74 : decode cX3_crash 74 = .ok (.goto (-29), 3) := by decide +kernel
theorem dX3_crash_77 : decode cX3_crash 77 = .ok (.aload_n 0, 1) := by decide +kernel
theorem dX3_crash_78 : decode cX3_crash 78 = .ok (.invokevirtual 119, 3) := by decide +kernel
theorem dX3_crash_81 : decode cX3_crash 81 = .ok (.aload_n 0, 1) := by decide +kernel
theorem dX3_crash_82 : decode cX3_crash 82 = .ok (.dup, 1) := by decide +kernel
theorem dX3_crash_83 : decode cX3_crash 83 = .ok (.getfield 122, 3) := by decide +kernel
theorem dX3_crash_86 : decode cX3_crash 86 = .ok (.iconst 1, 1) := by decide +kernel
theorem dX3_crash_87 : decode cX3_crash 87 = .ok (.iadd, 1) := by decide +kernel
theorem dX3_crash_88 : decode cX3_crash 88 = .ok (.putfield 122, 3) := by decide +kernel
theorem dX3_crash_91 : decode cX3_crash 91 = .ok (.aload_n 0, 1) := by decide +kernel
theorem dX3_crash_92 : decode cX3_crash 92 = .ok (.iconst 0, 1) := by decide +kernel
theorem dX3_crash_93 : decode cX3_crash 93 = .ok (.putfield 125, 3) := by decide +kernel
theorem dX3_crash_96 : decode cX3_crash 96 = .ok (.aload_n 0, 1) := by decide +kernel
theorem dX3_crash_97 : decode cX3_crash 97 = .ok (.iconst 0, 1) := by decide +kernel
theorem dX3_crash_98 : decode cX3_crash 98 = .ok (.putfield 128, 3) := by decide +kernel
theorem dX3_crash_101 : decode cX3_crash 101 = .ok (.iconst 1, 1) := by decide +kernel
theorem dX3_crash_102 : decode cX3_crash 102 = .ok (.istore_n 2, 1) := by decide +kernel
theorem dX3_crash_103 : decode cX3_crash 103 = .ok (.iload_n 2, 1) := by decide +kernel
theorem dX3_crash_104 : decode cX3_crash 104 = .ok (.bipush 8, 2) := by decide +kernel
theorem dX3_crash_106 : decode cX3_crash 106 = .ok (.if_icmp .gt 14, 3) := by decide +kernel
theorem dX3_crash_109 : decode cX3_crash 109 = .ok (.aload_n 0, 1) := by decide +kernel
theorem dX3_crash_110 : decode cX3_crash 110 = .ok (.iload_n 2, 1) := by decide +kernel
theorem dX3_crash_111 : decode cX3_crash 111 = .ok (.invokevirtual 131, 3) := by decide +kernel
theorem dX3_crash_114 : decode cX3_crash 114 = .ok (.iinc 2 1, 3) := by decide +kernel
theorem dX3_crash_117 : decode cX3_crash 117 = .ok (.goto (-14), 3) := by decide +kernel
theorem dX3_crash_120 : decode cX3_crash 120 = .ok (.iconst 0, 1) := by decide +kernel
theorem dX3_crash_121 : decode cX3_crash 121 = .ok (.istore_n 2, 1) := by decide +kernel
theorem dX3_crash_122 : decode cX3_crash 122 = .ok (.iload_n 2, 1) := by decide +kernel
theorem dX3_crash_123 : decode cX3_crash 123 = .ok (.aload_n 0, 1) := by decide +kernel
theorem dX3_crash_124 : decode cX3_crash 124 = .ok (.getfield 128, 3) := by decide +kernel
theorem dX3_crash_127 : decode cX3_crash 127 = .ok (.if_icmp .ge 45, 3) := by decide +kernel
theorem dX3_crash_130 : decode cX3_crash 130 = .ok (.iconst 0, 1) := by decide +kernel
theorem dX3_crash_131 : decode cX3_crash 131 = .ok (.istore_n 3, 1) := by decide +kernel
theorem dX3_crash_132 : decode cX3_crash 132 = .ok (.iload_n 3, 1) := by decide +kernel
theorem dX3_crash_133 : decode cX3_crash 133 = .ok (.aload_n 0, 1) := by decide +kernel
theorem dX3_crash_134 : decode cX3_crash 134 = .ok (.aload_n 0, 1) := by decide +kernel
theorem dX3_crash_135 : decode cX3_crash 135 = .ok (.getfield 41, 3) := by decide +kernel
theorem dX3_crash_138 : decode cX3_crash 138 = .ok (.iload_n 2, 1) := by decide +kernel
theorem dX3_crash_139 : decode cX3_crash 139 = .ok (.iaload, 1) := by decide +kernel
theorem dX3_crash_140 : decode cX3_crash 140 = .ok (.invokevirtual 62, 3) := by decide +kernel
theorem dX3_crash_143 : decode cX3_crash 143 = .ok (.if_icmp .ge 23, 3) := by decide +kernel
theorem dX3_crash_146 : decode cX3_crash 146 = .ok (.aload_n 0, 1) := by decide +kernel
theorem dX3_crash_147 : decode cX3_crash 147 = .ok (.aload_n 0, 1) := by decide +kernel
theorem dX3_crash_148 : decode cX3_crash 148 = .ok (.getfield 41, 3) := by decide +kernel
theorem dX3_crash_151 : decode cX3_crash 151 = .ok (.iload_n 2, 1) := by decide +kernel
theorem dX3_crash_152 : decode cX3_crash 152 = .ok (.iaload, 1) := by decide +kernel
theorem dX3_crash_153 : decode cX3_crash 153 = .ok (.iconst 1, 1) := by decide +kernel
theorem dX3_crash_154 : decode cX3_crash 154 = .ok (.iadd, 1) := by decide +kernel
theorem dX3_crash_155 : decode cX3_crash 155 = .ok (.iload_n 3, 1) := by decide +kernel
theorem dX3_crash_156 : decode cX3_crash 156 = .ok (.iadd, 1) := by decide +kernel
theorem dX3_crash_157 : decode cX3_crash 157 = .ok (.invokevirtual 131, 3) := by decide +kernel
theorem dX3_crash_160 : decode cX3_crash 160 = .ok (.iinc 3 1, 3) := by decide +kernel
theorem dX3_crash_163 : decode cX3_crash 163 = .ok (.goto (-31), 3) := by decide +kernel
theorem dX3_crash_166 : decode cX3_crash 166 = .ok (.iinc 2 1, 3) := by decide +kernel
theorem dX3_crash_169 : decode cX3_crash 169 = .ok (.goto (-47), 3) := by decide +kernel
theorem dX3_crash_172 : decode cX3_crash 172 = .ok (.aload_n 0, 1) := by decide +kernel
theorem dX3_crash_173 : decode cX3_crash 173 = .ok (.getfield 128, 3) := by decide +kernel
theorem dX3_crash_176 : decode cX3_crash 176 = .ok (.ireturn, 1) := by decide +kernel
set_option maxRecDepth 20000 in
theorem ggX3_look_X3_isBlock : GoodIn wsX3_look wsX3_isBlock := goodIn_r _ [10, 2, 11, 12, 13, 9, 14, 64, 65, 66, 67, 68, 69, 70, 71, 72, 73, 74, 75, 76, 77, 78, 79, 80, 81] (by decide +kernel) (by decide +kernel)
set_option maxRecDepth 20000 in
theorem gX3_look_X3_isBlock : GoodIn wsX3_look (wsV RX3 102 RX3 yX3_isBlock wsX3_isBlock) := goodIn_app (goodIn_of _ (by decide +kernel)) ggX3_look_X3_isBlock
set_option maxRecDepth 20000 in
theorem ggX3_look_X3_fits : GoodIn wsX3_look wsX3_fits := goodIn_r _ [18, 19, 20, 11, 12, 13, 9, 14, 21, 22, 23, 24, 1, 25, 26, 27, 28, 29, 30, 31, 32, 33, 34, 35, 36, 37, 38, 39, 40, 41, 42, 43, 44, 2, 45, 46, 47, 48, 49, 50, 51, 52, 53, 54, 55, 56, 64, 65, 66, 67, 68, 69, 70, 71, 72, 73, 74, 75, 76, 77, 78, 79, 80, 81] (by decide +kernel) (by decide +kernel)
set_option maxRecDepth 20000 in
theorem gX3_look_X3_fits : GoodIn wsX3_look (wsV RX3 134 RX3 yX3_fits wsX3_fits) := goodIn_app (goodIn_of _ (by decide +kernel)) ggX3_look_X3_fits
set_option maxRecDepth 20000 in
theorem ggX3_look_X3_write : GoodIn wsX3_look wsX3_write := goodIn_r _ [60, 1, 61, 62, 63, 64, 65, 66, 67, 68, 69, 70, 71, 72, 73, 74, 75, 76, 77, 78, 79, 80, 81] (by decide +kernel) (by decide +kernel)
set_option maxRecDepth 20000 in
theorem gX3_look_X3_write : GoodIn wsX3_look (wsV RX3 98 RX3 yX3_write wsX3_write) := goodIn_app (goodIn_of _ (by decide +kernel)) ggX3_look_X3_write
theorem dX3_look_0 : decode cX3_look 0 = .ok (.aload_n 0, 1) := by decide +kernel
theorem dX3_look_1 : decode cX3_look 1 = .ok (.getfield 7, 3) := by decide +kernel
theorem dX3_look_4 : decode cX3_look 4 = .ok (.iload_n 1, 1) := by decide +kernel
theorem dX3_look_5 : decode cX3_look 5 = .ok (.iaload, 1) := by decide +kernel
theorem dX3_look_6 : decode cX3_look 6 = .ok (.istore_n 2, 1) := by decide +kernel
theorem dX3_look_7 : decode cX3_look 7 = .ok (.iload_n 2, 1) := by decide +kernel
theorem dX3_look_8 : decode cX3_look 8 = .ok (.ifCond .eq 11, 3) := by decide +kernel
theorem dX3_look_11 : decode cX3_look 11 = .ok (.aload_n 0, 1) := by decide +kernel
theorem dX3_look_12 : decode cX3_look 12 = .ok (.iload_n 2, 1) := by decide +kernel
theorem dX3_look_13 : decode cX3_look 13 = .ok (.invokevirtual 102, 3) := by decide +kernel
theorem dX3_look_16 : decode cX3_look 16 = .ok (.ifCond .eq 4, 3) := by decide +kernel
theorem dX3_look_19 : decode cX3_look 19 = .ok (.return_, 1) := by decide +kernel
theorem dX3_look_20 : decode cX3_look 20 = .ok (.aload_n 0, 1) := by decide +kernel
theorem dX3_look_21 : decode cX3_look 21 = .ok (.iload_n 2, 1) := by decide +kernel
theorem dX3_look_22 : decode cX3_look 22 = .ok (.invokevirtual 134, 3) := by decide +kernel
theorem dX3_look_25 : decode cX3_look 25 = .ok (.ifCond .eq 31, 3) := by decide +kernel
theorem dX3_look_28 : decode cX3_look 28 = .ok (.aload_n 0, 1) := by decide +kernel
theorem dX3_look_29 : decode cX3_look 29 = .ok (.getfield 16, 3) := by decide +kernel
theorem dX3_look_32 : decode cX3_look 32 = .ok (.iload_n 2, 1) := by decide +kernel
theorem dX3_look_33 : decode cX3_look 33 = .ok (.iconst 1, 1) := by decide +kernel
theorem dX3_look_34 : decode cX3_look 34 = .ok (.bastore, 1) := by decide +kernel
theorem dX3_look_35 : decode cX3_look 35 = .ok (.aload_n 0, 1) := by decide +kernel
theorem dX3_look_36 : decode cX3_look 36 = .ok (.getfield 41, 3) := by decide +kernel
theorem dX3_look_39 : decode cX3_look 39 = .ok (.aload_n 0, 1) := by decide +kernel
theorem dX3_look_40 : decode cX3_look 40 = .ok (.getfield 128, 3) := by decide +kernel
theorem dX3_look_43 : decode cX3_look 43 = .ok (.iload_n 2, 1) := by decide +kernel
theorem dX3_look_44 : decode cX3_look 44 = .ok (.iastore, 1) := by decide +kernel
theorem dX3_look_45 : decode cX3_look 45 = .ok (.aload_n 0, 1) := by decide +kernel
theorem dX3_look_46 : decode cX3_look 46 = .ok (.dup, 1) := by decide +kernel
theorem dX3_look_47 : decode cX3_look 47 = .ok (.getfield 128, 3) := by decide +kernel
theorem dX3_look_50 : decode cX3_look 50 = .ok (.iconst 1, 1) := by decide +kernel
theorem dX3_look_51 : decode cX3_look 51 = .ok (.iadd, 1) := by decide +kernel
theorem dX3_look_52 : decode cX3_look 52 = .ok (.putfield 128, 3) := by decide +kernel
theorem dX3_look_55 : decode cX3_look 55 = .ok (.return_, 1) := by decide +kernel
theorem dX3_look_56 : decode cX3_look 56 = .ok (.aload_n 0, 1) := by decide +kernel
theorem dX3_look_57 : decode cX3_look 57 = .ok (.iload_n 1, 1) := by decide +kernel
theorem dX3_look_58 : decode cX3_look 58 = .ok (.iconst 0, 1) := by decide +kernel
theorem dX3_look_59 : decode cX3_look 59 = .ok (.invokevirtual 98, 3) := by decide +kernel
theorem dX3_look_62 : decode cX3_look 62 = .ok (.aload_n 0, 1) := by decide +kernel
theorem dX3_look_63 : decode cX3_look 63 = .ok (.dup, 1) := by decide +kernel
theorem dX3_look_64 : decode cX3_look 64 = .ok (.getfield 125, 3) := by decide +kernel
theorem dX3_look_67 : decode cX3_look 67 = .ok (.iconst 1, 1) := by decide +kernel
theorem dX3_look_68 : decode cX3_look 68 = .ok (.iadd, 1) := by decide +kernel
theorem dX3_look_69 : decode cX3_look 69 = .ok (.putfield 125, 3) := by decide +kernel
theorem dX3_look_72 : decode cX3_look 72 = .ok (.return_, 1) := by decide +kernel
set_option maxRecDepth 20000 in
theorem ggX3_fits_X3_is : GoodIn wsX3_fits wsX3_is := goodIn_r _ [7] (by decide +kernel) (by decide +kernel)
set_option maxRecDepth 20000 in
theorem gX3_fits_X3_is : GoodIn wsX3_fits (wsV RX3 69 RX3 yX3_is wsX3_is) := goodIn_app (goodIn_of _ (by decide +kernel)) ggX3_fits_X3_is
set_option maxRecDepth 20000 in
theorem ggX3_fits_X3_isHead : GoodIn wsX3_fits wsX3_isHead := goodIn_r _ [11, 12, 13, 14, 15, 6, 16, 17, 18, 19, 20, 21, 22, 23, 24, 25, 46, 47, 48, 49, 50, 51, 52, 53, 54, 55, 56, 57, 58, 59, 60, 61, 62, 63] (by decide +kernel) (by decide +kernel)
set_option maxRecDepth 20000 in
theorem gX3_fits_X3_isHead : GoodIn wsX3_fits (wsV RX3 137 RX3 yX3_isHead wsX3_isHead) := goodIn_app (goodIn_of _ (by decide +kernel)) ggX3_fits_X3_isHead
set_option maxRecDepth 20000 in
theorem ggX3_fits_X3_map : GoodIn wsX3_fits wsX3_map := goodIn_r _ [29, 1, 2, 30, 31, 32, 33, 13, 14, 15, 6, 16, 12, 34, 35, 36, 37, 38, 39, 40, 41, 42, 43, 44, 45, 46, 47, 48, 49, 50, 51, 52, 53, 54, 55, 56, 57, 58, 59, 60, 61, 62, 63] (by decide +kernel) (by decide +kernel)
set_option maxRecDepth 20000 in
theorem gX3_fits_X3_map : GoodIn wsX3_fits (wsV RX3 83 RX3 yX3_map wsX3_map) := goodIn_app (goodIn_of _ (by decide +kernel)) ggX3_fits_X3_map
set_option maxRecDepth 20000 in
theorem ggX3_fits_X3_sizeAt : GoodIn wsX3_fits wsX3_sizeAt := goodIn_r _ [16, 12, 46, 47, 48, 49, 50, 51, 52, 53, 54, 55, 56, 57, 58, 59, 60, 61, 62, 63] (by decide +kernel) (by decide +kernel)
set_option maxRecDepth 20000 in
theorem gX3_fits_X3_sizeAt : GoodIn wsX3_fits (wsV RX3 58 RX3 yX3_sizeAt wsX3_sizeAt) := goodIn_app (goodIn_of _ (by decide +kernel)) ggX3_fits_X3_sizeAt
set_option maxRecDepth 20000 in
theorem ggX3_fits_X3_classOf : GoodIn wsX3_fits wsX3_classOf := goodIn_r _ [37] (by decide +kernel) (by decide +kernel)
set_option maxRecDepth 20000 in
theorem gX3_fits_X3_classOf : GoodIn wsX3_fits (wsV RX3 73 RX3 yX3_classOf wsX3_classOf) := goodIn_app (goodIn_of _ (by decide +kernel)) ggX3_fits_X3_classOf
set_option maxRecDepth 20000 in
theorem ggX3_fits_X3_orderOf : GoodIn wsX3_fits wsX3_orderOf := goodIn_r _ [41] (by decide +kernel) (by decide +kernel)
set_option maxRecDepth 20000 in
theorem gX3_fits_X3_orderOf : GoodIn wsX3_fits (wsV RX3 76 RX3 yX3_orderOf wsX3_orderOf) := goodIn_app (goodIn_of _ (by decide +kernel)) ggX3_fits_X3_orderOf
set_option maxRecDepth 20000 in
theorem ggX3_fits_X3_areFree : GoodIn wsX3_fits wsX3_areFree := goodIn_r _ [45, 1, 46, 47, 48, 49, 50, 51, 52, 53, 54, 55, 56, 57, 58, 59, 60, 61, 62, 63] (by decide +kernel) (by decide +kernel)
set_option maxRecDepth 20000 in
theorem gX3_fits_X3_areFree : GoodIn wsX3_fits (wsV RX3 79 RX3 yX3_areFree wsX3_areFree) := goodIn_app (goodIn_of _ (by decide +kernel)) ggX3_fits_X3_areFree
theorem dX3_fits_0 : decode cX3_fits 0 = .ok (.aload_n 0, 1) := by decide +kernel
theorem dX3_fits_1 : decode cX3_fits 1 = .ok (.iload_n 1, 1) := by decide +kernel
theorem dX3_fits_2 : decode cX3_fits 2 = .ok (.bipush 16, 2) := by decide +kernel
theorem dX3_fits_4 : decode cX3_fits 4 = .ok (.sipush 4095, 3) := by decide +kernel
theorem dX3_fits_7 : decode cX3_fits 7 = .ok (.invokevirtual 69, 3) := by decide +kernel
theorem dX3_fits_10 : decode cX3_fits 10 = .ok (.ifCond .eq 11, 3) := by decide +kernel
theorem dX3_fits_13 : decode cX3_fits 13 = .ok (.aload_n 0, 1) := by decide +kernel
theorem dX3_fits_14 : decode cX3_fits 14 = .ok (.iload_n 1, 1) := by decide +kernel
theorem dX3_fits_15 : decode cX3_fits 15 = .ok (.invokevirtual 137, 3) := by decide +kernel
theorem dX3_fits_18 : decode cX3_fits 18 = .ok (.ifCond .ne 5, 3) := by decide +kernel
theorem dX3_fits_21 : decode cX3_fits 21 = .ok (.iconst 0, 1) := by decide +kernel
theorem dX3_fits_22 : decode cX3_fits 22 = .ok (.ireturn, 1) := by decide +kernel
theorem dX3_fits_23 : decode cX3_fits 23 = .ok (.aload_n 0, 1) := by decide +kernel
theorem dX3_fits_24 : decode cX3_fits 24 = .ok (.invokevirtual 83, 3) := by decide +kernel
theorem dX3_fits_27 : decode cX3_fits 27 = .ok (.aload_n 0, 1) := by decide +kernel
theorem dX3_fits_28 : decode cX3_fits 28 = .ok (.iload_n 1, 1) := by decide +kernel
theorem dX3_fits_29 : decode cX3_fits 29 = .ok (.invokevirtual 58, 3) := by decide +kernel
theorem dX3_fits_32 : decode cX3_fits 32 = .ok (.iconst 1, 1) := by decide +kernel
theorem dX3_fits_33 : decode cX3_fits 33 = .ok (.iadd, 1) := by decide +kernel
theorem dX3_fits_34 : decode cX3_fits 34 = .ok (.istore_n 2, 1) := by decide +kernel
theorem dX3_fits_35 : decode cX3_fits 35 = .ok (.iload_n 1, 1) := by decide +kernel
theorem dX3_fits_36 : decode cX3_fits 36 = .ok (.bipush 16, 2) := by decide +kernel
theorem dX3_fits_38 : decode cX3_fits 38 = .ok (.idiv, 1) := by decide +kernel
theorem dX3_fits_39 : decode cX3_fits 39 = .ok (.istore_n 3, 1) := by decide +kernel
theorem dX3_fits_40 : decode cX3_fits 40 = .ok (.aload_n 0, 1) := by decide +kernel
theorem dX3_fits_41 : decode cX3_fits 41 = .ok (.iload_n 2, 1) := by decide +kernel
theorem dX3_fits_42 : decode cX3_fits 42 = .ok (.invokevirtual 73, 3) := by decide +kernel
theorem dX3_fits_45 : decode cX3_fits 45 = .ok (.istore 4, 2) := by decide +kernel
theorem dX3_fits_47 : decode cX3_fits 47 = .ok (.iload 4, 2) := by decide +kernel
theorem dX3_fits_49 : decode cX3_fits 49 = .ok (.ifCond .le 64, 3) := by decide +kernel
theorem dX3_fits_52 : decode cX3_fits 52 = .ok (.iload_n 1, 1) := by decide +kernel
theorem dX3_fits_53 : decode cX3_fits 53 = .ok (.bipush 16, 2) := by decide +kernel
theorem dX3_fits_55 : decode cX3_fits 55 = .ok (.irem, 1) := by decide +kernel
theorem dX3_fits_56 : decode cX3_fits 56 = .ok (.iload 4, 2) := by decide +kernel
theorem dX3_fits_58 : decode cX3_fits 58 = .ok (.irem, 1) := by decide +kernel
theorem dX3_fits_59 : decode cX3_fits 59 = .ok (.ifCond .ne 52, 3) := by decide +kernel
theorem dX3_fits_62 : decode cX3_fits 62 = .ok (.iload_n 1, 1) := by decide +kernel
theorem dX3_fits_63 : decode cX3_fits 63 = .ok (.bipush 16, 2) := by decide +kernel
theorem dX3_fits_65 : decode cX3_fits 65 = .ok (.irem, 1) := by decide +kernel
theorem dX3_fits_66 : decode cX3_fits 66 = .ok (.iload 4, 2) := by decide +kernel
theorem dX3_fits_68 : decode cX3_fits 68 = .ok (.idiv, 1) := by decide +kernel
theorem dX3_fits_69 : decode cX3_fits 69 = .ok (.bipush 16, 2) := by decide +kernel
theorem dX3_fits_71 : decode cX3_fits 71 = .ok (.iload 4, 2) := by decide +kernel
theorem dX3_fits_73 : decode cX3_fits 73 = .ok (.idiv, 1) := by decide +kernel
theorem dX3_fits_74 : decode cX3_fits 74 = .ok (.if_icmp .ge 37, 3) := by decide +kernel
theorem dX3_fits_77 : decode cX3_fits 77 = .ok (.aload_n 0, 1) := by decide +kernel
theorem dX3_fits_78 : decode cX3_fits 78 = .ok (.getfield 26, 3) := by decide +kernel
theorem dX3_fits_81 : decode cX3_fits 81 = .ok (.iload_n 3, 1) := by decide +kernel
theorem dX3_fits_82 : decode cX3_fits 82 = .ok (.iaload, 1) := by decide +kernel
theorem dX3_fits_83 : decode cX3_fits 83 = .ok (.ifCond .eq 24, 3) := by decide +kernel
theorem dX3_fits_86 : decode cX3_fits 86 = .ok (.aload_n 0, 1) := by decide +kernel
theorem dX3_fits_87 : decode cX3_fits 87 = .ok (.getfield 26, 3) := by decide +kernel
theorem dX3_fits_90 : decode cX3_fits 90 = .ok (.iload_n 3, 1) := by decide +kernel
theorem dX3_fits_91 : decode cX3_fits 91 = .ok (.iaload, 1) := by decide +kernel
theorem dX3_fits_92 : decode cX3_fits 92 = .ok (.iconst 1, 1) := by decide +kernel
theorem dX3_fits_93 : decode cX3_fits 93 = .ok (.if_icmp .ne 18, 3) := by decide +kernel
theorem dX3_fits_96 : decode cX3_fits 96 = .ok (.aload_n 0, 1) := by decide +kernel
theorem dX3_fits_97 : decode cX3_fits 97 = .ok (.getfield 29, 3) := by decide +kernel
theorem dX3_fits_100 : decode cX3_fits 100 = .ok (.iload_n 3, 1) := by decide +kernel
theorem dX3_fits_101 : decode cX3_fits 101 = .ok (.iaload, 1) := by decide +kernel
theorem dX3_fits_102 : decode cX3_fits 102 = .ok (.iload 4, 2) := by decide +kernel
theorem dX3_fits_104 : decode cX3_fits 104 = .ok (.if_icmp .ne 7, 3) := by decide +kernel
theorem dX3_fits_107 : decode cX3_fits 107 = .ok (.iconst 1, 1) := by decide +kernel
theorem dX3_fits_108 : decode cX3_fits 108 = .ok (.goto 4, 3) := by decide +kernel
theorem dX3_fits_111 : decode cX3_fits 111 = .ok (.iconst 0, 1) := by decide +kernel
theorem dX3_fits_112 : decode cX3_fits 112 = .ok (.ireturn, 1) := by decide +kernel
theorem dX3_fits_113 : decode cX3_fits 113 = .ok (.aload_n 0, 1) := by decide +kernel
theorem dX3_fits_114 : decode cX3_fits 114 = .ok (.iload_n 2, 1) := by decide +kernel
theorem dX3_fits_115 : decode cX3_fits 115 = .ok (.invokevirtual 76, 3) := by decide +kernel
theorem dX3_fits_118 : decode cX3_fits 118 = .ok (.istore 5, 2) := by decide +kernel
theorem dX3_fits_120 : decode cX3_fits 120 = .ok (.iload_n 1, 1) := by decide +kernel
theorem dX3_fits_121 : decode cX3_fits 121 = .ok (.bipush 16, 2) := by decide +kernel
theorem dX3_fits_123 : decode cX3_fits 123 = .ok (.irem, 1) := by decide +kernel
theorem dX3_fits_124 : decode cX3_fits 124 = .ok (.ifCond .ne 28, 3) := by decide +kernel
theorem dX3_fits_127 : decode cX3_fits 127 = .ok (.iload_n 3, 1) := by decide +kernel
theorem dX3_fits_128 : decode cX3_fits 128 = .ok (.iconst 1, 1) := by decide +kernel
theorem dX3_fits_129 : decode cX3_fits 129 = .ok (.iload 5, 2) := by decide +kernel
theorem dX3_fits_131 : decode cX3_fits 131 = .ok (.ishl, 1) := by decide +kernel
theorem dX3_fits_132 : decode cX3_fits 132 = .ok (.irem, 1) := by decide +kernel
theorem dX3_fits_133 : decode cX3_fits 133 = .ok (.ifCond .ne 19, 3) := by decide +kernel
theorem dX3_fits_136 : decode cX3_fits 136 = .ok (.aload_n 0, 1) := by decide +kernel
theorem dX3_fits_137 : decode cX3_fits 137 = .ok (.iload_n 3, 1) := by decide +kernel
theorem dX3_fits_138 : decode cX3_fits 138 = .ok (.iconst 1, 1) := by decide +kernel
theorem dX3_fits_139 : decode cX3_fits 139 = .ok (.iload 5, 2) := by decide +kernel
theorem dX3_fits_141 : decode cX3_fits 141 = .ok (.ishl, 1) := by decide +kernel
theorem dX3_fits_142 : decode cX3_fits 142 = .ok (.invokevirtual 79, 3) := by decide +kernel
theorem dX3_fits_145 : decode cX3_fits 145 = .ok (.ifCond .eq 7, 3) := by decide +kernel
theorem dX3_fits_148 : decode cX3_fits 148 = .ok (.iconst 1, 1) := by decide +kernel
theorem dX3_fits_149 : decode cX3_fits 149 = .ok (.goto 4, 3) := by decide +kernel
theorem dX3_fits_152 : decode cX3_fits 152 = .ok (.iconst 0, 1) := by decide +kernel
theorem dX3_fits_153 : decode cX3_fits 153 = .ok (.ireturn, 1) := by decide +kernel
set_option maxRecDepth 20000 in
theorem ggX3_collect_X3_see : GoodIn wsX3_collect wsX3_see := goodIn_r _ [11, 2, 5, 3, 12, 13, 14, 10, 15, 6, 16, 17, 18, 19, 39, 40, 41, 42, 43, 44, 45, 46, 47, 48, 49, 50, 51, 52, 53, 54, 55, 56] (by decide +kernel) (by decide +kernel)
set_option maxRecDepth 20000 in
theorem gX3_collect_X3_see : GoodIn wsX3_collect (wsV RX3 140 RX3 yX3_see wsX3_see) := goodIn_app (goodIn_of _ (by decide +kernel)) ggX3_collect_X3_see
set_option maxRecDepth 20000 in
theorem ggX3_collect_X3_refsAt : GoodIn wsX3_collect wsX3_refsAt := goodIn_r _ [23, 4, 39, 40, 41, 42, 43, 44, 45, 46, 47, 48, 49, 50, 51, 52, 53, 54, 55, 56] (by decide +kernel) (by decide +kernel)
set_option maxRecDepth 20000 in
theorem gX3_collect_X3_refsAt : GoodIn wsX3_collect (wsV RX3 62 RX3 yX3_refsAt wsX3_refsAt) := goodIn_app (goodIn_of _ (by decide +kernel)) ggX3_collect_X3_refsAt
set_option maxRecDepth 20000 in
theorem ggX3_collect_X3_freed : GoodIn wsX3_collect wsX3_freed := goodIn_r _ [27, 6, 28, 29, 30, 10, 31, 4, 32, 33, 34, 35, 36, 37, 38, 39, 40, 41, 42, 43, 44, 45, 46, 47, 48, 49, 50, 51, 52, 53, 54, 55, 56] (by decide +kernel) (by decide +kernel)
set_option maxRecDepth 20000 in
theorem gX3_collect_X3_freed : GoodIn wsX3_collect (wsV RX3 109 RX3 yX3_freed wsX3_freed) := goodIn_app (goodIn_of _ (by decide +kernel)) ggX3_collect_X3_freed
theorem dX3_collect_0 : decode cX3_collect 0 = .ok (.aload_n 0, 1) := by decide +kernel
theorem dX3_collect_1 : decode cX3_collect 1 = .ok (.iconst 0, 1) := by decide +kernel
theorem dX3_collect_2 : decode cX3_collect 2 = .ok (.putfield 47, 3) := by decide +kernel
theorem dX3_collect_5 : decode cX3_collect 5 = .ok (.iconst 0, 1) := by decide +kernel
theorem dX3_collect_6 : decode cX3_collect 6 = .ok (.istore_n 1, 1) := by decide +kernel
theorem dX3_collect_7 : decode cX3_collect 7 = .ok (.iload_n 1, 1) := by decide +kernel
theorem dX3_collect_8 : decode cX3_collect 8 = .ok (.sipush 4096, 3) := by decide +kernel
theorem dX3_collect_11 : decode cX3_collect 11 = .ok (.if_icmp .ge 16, 3) := by decide +kernel
theorem dX3_collect_14 : decode cX3_collect 14 = .ok (.aload_n 0, 1) := by decide +kernel
theorem dX3_collect_15 : decode cX3_collect 15 = .ok (.getfield 44, 3) := by decide +kernel
theorem dX3_collect_18 : decode cX3_collect 18 = .ok (.iload_n 1, 1) := by decide +kernel
theorem dX3_collect_19 : decode cX3_collect 19 = .ok (.iconst 0, 1) := by decide +kernel
theorem dX3_collect_20 : decode cX3_collect 20 = .ok (.bastore, 1) := by decide +kernel
theorem dX3_collect_21 : decode cX3_collect 21 = .ok (.iinc 1 1, 3) := by decide +kernel
theorem dX3_collect_24 : decode cX3_collect 24 = .ok (.goto (-17), 3) := by decide +kernel
theorem dX3_collect_27 : decode cX3_collect 27 = .ok (.aload_n 0, 1) := by decide +kernel
theorem dX3_collect_28 : decode cX3_collect 28 = .ok (.iconst 0, 1) := by decide +kernel
theorem dX3_collect_29 : decode cX3_collect 29 = .ok (.putfield 128, 3) := by decide +kernel
theorem dX3_collect_32 : decode cX3_collect 32 = .ok (.iconst 1, 1) := by decide +kernel
theorem dX3_collect_33 : decode cX3_collect 33 = .ok (.istore_n 1, 1) := by decide +kernel
theorem dX3_collect_34 : decode cX3_collect 34 = .ok (.iload_n 1, 1) := by decide +kernel
theorem dX3_collect_35 : decode cX3_collect 35 = .ok (.bipush 8, 2) := by decide +kernel
theorem dX3_collect_37 : decode cX3_collect 37 = .ok (.if_icmp .gt 19, 3) := by decide +kernel
theorem dX3_collect_40 : decode cX3_collect 40 = .ok (.aload_n 0, 1) := by decide +kernel
theorem dX3_collect_41 : decode cX3_collect 41 = .ok (.aload_n 0, 1) := by decide +kernel
theorem dX3_collect_42 : decode cX3_collect 42 = .ok (.getfield 7, 3) := by decide +kernel
theorem dX3_collect_45 : decode cX3_collect 45 = .ok (.iload_n 1, 1) := by decide +kernel
theorem dX3_collect_46 : decode cX3_collect 46 = .ok (.iaload, 1) := by decide +kernel
theorem dX3_collect_47 : decode cX3_collect 47 = .ok (.invokevirtual 140, 3) := by decide +kernel
theorem dX3_collect_50 : decode cX3_collect 50 = .ok (.iinc 1 1, 3) := by decide +kernel
theorem dX3_collect_53 : decode cX3_collect 53 = .ok (.goto (-19), 3) := by decide +kernel
theorem dX3_collect_56 : decode cX3_collect 56 = .ok (.iconst 0, 1) := by decide +kernel
theorem dX3_collect_57 : decode cX3_collect 57 = .ok (.istore_n 1, 1) := by decide +kernel
theorem dX3_collect_58 : decode cX3_collect 58 = .ok (.iload_n 1, 1) := by decide +kernel
theorem dX3_collect_59 : decode cX3_collect 59 = .ok (.aload_n 0, 1) := by decide +kernel
theorem dX3_collect_60 : decode cX3_collect 60 = .ok (.getfield 128, 3) := by decide +kernel
theorem dX3_collect_63 : decode cX3_collect 63 = .ok (.if_icmp .ge 50, 3) := by decide +kernel
theorem dX3_collect_66 : decode cX3_collect 66 = .ok (.iconst 0, 1) := by decide +kernel
theorem dX3_collect_67 : decode cX3_collect 67 = .ok (.istore_n 2, 1) := by decide +kernel
theorem dX3_collect_68 : decode cX3_collect 68 = .ok (.iload_n 2, 1) := by decide +kernel
theorem dX3_collect_69 : decode cX3_collect 69 = .ok (.aload_n 0, 1) := by decide +kernel
theorem dX3_collect_70 : decode cX3_collect 70 = .ok (.aload_n 0, 1) := by decide +kernel
theorem dX3_collect_71 : decode cX3_collect 71 = .ok (.getfield 41, 3) := by decide +kernel
theorem dX3_collect_74 : decode cX3_collect 74 = .ok (.iload_n 1, 1) := by decide +kernel
theorem dX3_collect_75 : decode cX3_collect 75 = .ok (.iaload, 1) := by decide +kernel
theorem dX3_collect_76 : decode cX3_collect 76 = .ok (.invokevirtual 62, 3) := by decide +kernel
theorem dX3_collect_79 : decode cX3_collect 79 = .ok (.if_icmp .ge 28, 3) := by decide +kernel
theorem dX3_collect_82 : decode cX3_collect 82 = .ok (.aload_n 0, 1) := by decide +kernel
theorem dX3_collect_83 : decode cX3_collect 83 = .ok (.aload_n 0, 1) := by decide +kernel
theorem dX3_collect_84 : decode cX3_collect 84 = .ok (.getfield 7, 3) := by decide +kernel
theorem dX3_collect_87 : decode cX3_collect 87 = .ok (.aload_n 0, 1) := by decide +kernel
theorem dX3_collect_88 : decode cX3_collect 88 = .ok (.getfield 41, 3) := by decide +kernel
theorem dX3_collect_91 : decode cX3_collect 91 = .ok (.iload_n 1, 1) := by decide +kernel
theorem dX3_collect_92 : decode cX3_collect 92 = .ok (.iaload, 1) := by decide +kernel
theorem dX3_collect_93 : decode cX3_collect 93 = .ok (.iconst 1, 1) := by decide +kernel
theorem dX3_collect_94 : decode cX3_collect 94 = .ok (.iadd, 1) := by decide +kernel
theorem dX3_collect_95 : decode cX3_collect 95 = .ok (.iload_n 2, 1) := by decide +kernel
theorem dX3_collect_96 : decode cX3_collect 96 = .ok (.iadd, 1) := by decide +kernel
theorem dX3_collect_97 : decode cX3_collect 97 = .ok (.iaload, 1) := by decide +kernel
theorem dX3_collect_98 : decode cX3_collect 98 = .ok (.invokevirtual 140, 3) := by decide +kernel
theorem dX3_collect_101 : decode cX3_collect 101 = .ok (.iinc 2 1, 3) := by decide +kernel
theorem dX3_collect_104 : decode cX3_collect 104 = .ok (.goto (-36), 3) := by decide +kernel
theorem dX3_collect_107 : decode cX3_collect 107 = .ok (.iinc 1 1, 3) := by decide +kernel
theorem dX3_collect_110 : decode cX3_collect 110 = .ok (.goto (-52), 3) := by decide +kernel
theorem dX3_collect_113 : decode cX3_collect 113 = .ok (.iconst 0, 1) := by decide +kernel
theorem dX3_collect_114 : decode cX3_collect 114 = .ok (.istore_n 1, 1) := by decide +kernel
theorem dX3_collect_115 : decode cX3_collect 115 = .ok (.bipush 16, 2) := by decide +kernel
theorem dX3_collect_117 : decode cX3_collect 117 = .ok (.istore_n 2, 1) := by decide +kernel
theorem dX3_collect_118 : decode cX3_collect 118 = .ok (.iload_n 2, 1) := by decide +kernel
theorem dX3_collect_119 : decode cX3_collect 119 = .ok (.sipush 4096, 3) := by decide +kernel
theorem dX3_collect_122 : decode cX3_collect 122 = .ok (.if_icmp .ge 39, 3) := by decide +kernel
theorem dX3_collect_125 : decode cX3_collect 125 = .ok (.aload_n 0, 1) := by decide +kernel
theorem dX3_collect_126 : decode cX3_collect 126 = .ok (.getfield 16, 3) := by decide +kernel
theorem dX3_collect_129 : decode cX3_collect 129 = .ok (.iload_n 2, 1) := by decide +kernel
theorem dX3_collect_130 : decode cX3_collect 130 = .ok (.baload, 1) := by decide +kernel
theorem dX3_collect_131 : decode cX3_collect 131 = .ok (.ifCond .eq 24, 3) := by decide +kernel
theorem dX3_collect_134 : decode cX3_collect 134 = .ok (.aload_n 0, 1) := by decide +kernel
theorem dX3_collect_135 : decode cX3_collect 135 = .ok (.getfield 44, 3) := by decide +kernel
theorem dX3_collect_138 : decode cX3_collect 138 = .ok (.iload_n 2, 1) := by decide +kernel
theorem dX3_collect_139 : decode cX3_collect 139 = .ok (.baload, 1) := by decide +kernel
theorem dX3_collect_140 : decode cX3_collect 140 = .ok (.ifCond .eq 6, 3) := by decide +kernel
theorem dX3_collect_143 : decode cX3_collect 143 = .ok (.goto 12, 3) := by decide +kernel
theorem dX3_collect_146 : decode cX3_collect 146 = .ok (.aload_n 0, 1) := by decide +kernel
theorem dX3_collect_147 : decode cX3_collect 147 = .ok (.iload_n 2, 1) := by decide +kernel
theorem dX3_collect_148 : decode cX3_collect 148 = .ok (.invokevirtual 109, 3) := by decide +kernel
theorem dX3_collect_151 : decode cX3_collect 151 = .ok (.istore_n 3, 1) := by decide +kernel
theorem dX3_collect_152 : decode cX3_collect 152 = .ok (.iinc 1 1, 3) := by decide +kernel
theorem dX3_collect_155 : decode cX3_collect 155 = .ok (.iinc 2 1, 3) := by decide +kernel
theorem dX3_collect_158 : decode cX3_collect 158 = .ok (.goto (-40), 3) := by decide +kernel
theorem dX3_collect_161 : decode cX3_collect 161 = .ok (.iload_n 1, 1) := by decide +kernel
theorem dX3_collect_162 : decode cX3_collect 162 = .ok (.ireturn, 1) := by decide +kernel
set_option maxRecDepth 20000 in
theorem ggX3_see_X3_isBlock : GoodIn wsX3_see wsX3_isBlock := goodIn_r _ [8, 9, 10, 11, 12, 7, 13, 14, 15, 16, 17, 18, 19, 20, 21, 22, 23, 24, 25, 26, 27, 28, 29, 30, 31] (by decide +kernel) (by decide +kernel)
set_option maxRecDepth 20000 in
theorem gX3_see_X3_isBlock : GoodIn wsX3_see (wsV RX3 102 RX3 yX3_isBlock wsX3_isBlock) := goodIn_app (goodIn_of _ (by decide +kernel)) ggX3_see_X3_isBlock
theorem dX3_see_0 : decode cX3_see 0 = .ok (.aload_n 0, 1) := by decide +kernel
theorem dX3_see_1 : decode cX3_see 1 = .ok (.iload_n 1, 1) := by decide +kernel
theorem dX3_see_2 : decode cX3_see 2 = .ok (.invokevirtual 102, 3) := by decide +kernel
theorem dX3_see_5 : decode cX3_see 5 = .ok (.ifCond .eq 12, 3) := by decide +kernel
theorem dX3_see_8 : decode cX3_see 8 = .ok (.aload_n 0, 1) := by decide +kernel
theorem dX3_see_9 : decode cX3_see 9 = .ok (.getfield 44, 3) := by decide +kernel
theorem dX3_see_12 : decode cX3_see 12 = .ok (.iload_n 1, 1) := by decide +kernel
theorem dX3_see_13 : decode cX3_see 13 = .ok (.baload, 1) := by decide +kernel
theorem dX3_see_14 : decode cX3_see 14 = .ok (.ifCond .eq 4, 3) := by decide +kernel
theorem dX3_see_17 : decode cX3_see 17 = .ok (.return_, 1) := by decide +kernel
theorem dX3_see_18 : decode cX3_see 18 = .ok (.aload_n 0, 1) := by decide +kernel
theorem dX3_see_19 : decode cX3_see 19 = .ok (.getfield 44, 3) := by decide +kernel
theorem dX3_see_22 : decode cX3_see 22 = .ok (.iload_n 1, 1) := by decide +kernel
theorem dX3_see_23 : decode cX3_see 23 = .ok (.iconst 1, 1) := by decide +kernel
theorem dX3_see_24 : decode cX3_see 24 = .ok (.bastore, 1) := by decide +kernel
theorem dX3_see_25 : decode cX3_see 25 = .ok (.aload_n 0, 1) := by decide +kernel
theorem dX3_see_26 : decode cX3_see 26 = .ok (.getfield 41, 3) := by decide +kernel
theorem dX3_see_29 : decode cX3_see 29 = .ok (.aload_n 0, 1) := by decide +kernel
theorem dX3_see_30 : decode cX3_see 30 = .ok (.getfield 128, 3) := by decide +kernel
theorem dX3_see_33 : decode cX3_see 33 = .ok (.iload_n 1, 1) := by decide +kernel
theorem dX3_see_34 : decode cX3_see 34 = .ok (.iastore, 1) := by decide +kernel
theorem dX3_see_35 : decode cX3_see 35 = .ok (.aload_n 0, 1) := by decide +kernel
theorem dX3_see_36 : decode cX3_see 36 = .ok (.dup, 1) := by decide +kernel
theorem dX3_see_37 : decode cX3_see 37 = .ok (.getfield 128, 3) := by decide +kernel
theorem dX3_see_40 : decode cX3_see 40 = .ok (.iconst 1, 1) := by decide +kernel
theorem dX3_see_41 : decode cX3_see 41 = .ok (.iadd, 1) := by decide +kernel
theorem dX3_see_42 : decode cX3_see 42 = .ok (.putfield 128, 3) := by decide +kernel
theorem dX3_see_45 : decode cX3_see 45 = .ok (.return_, 1) := by decide +kernel
set_option maxRecDepth 20000 in
theorem ggX3_word_X3_is : GoodIn wsX3_word wsX3_is := goodIn_r _ [8] (by decide +kernel) (by decide +kernel)
set_option maxRecDepth 20000 in
theorem gX3_word_X3_is : GoodIn wsX3_word (wsV RX3 69 RX3 yX3_is wsX3_is) := goodIn_app (goodIn_of _ (by decide +kernel)) ggX3_word_X3_is
theorem dX3_word_0 : decode cX3_word 0 = .ok (.aload_n 0, 1) := by decide +kernel
theorem dX3_word_1 : decode cX3_word 1 = .ok (.iconst 0, 1) := by decide +kernel
theorem dX3_word_2 : decode cX3_word 2 = .ok (.putfield 47, 3) := by decide +kernel
theorem dX3_word_5 : decode cX3_word 5 = .ok (.aload_n 0, 1) := by decide +kernel
theorem dX3_word_6 : decode cX3_word 6 = .ok (.iload_n 1, 1) := by decide +kernel
theorem dX3_word_7 : decode cX3_word 7 = .ok (.iconst 0, 1) := by decide +kernel
theorem dX3_word_8 : decode cX3_word 8 = .ok (.sipush 4095, 3) := by decide +kernel
theorem dX3_word_11 : decode cX3_word 11 = .ok (.invokevirtual 69, 3) := by decide +kernel
theorem dX3_word_14 : decode cX3_word 14 = .ok (.ifCond .ne 7, 3) := by decide +kernel
theorem dX3_word_17 : decode cX3_word 17 = .ok (.iconst 0, 1) := by decide +kernel
theorem dX3_word_18 : decode cX3_word 18 = .ok (.goto 22, 3) := by decide +kernel
theorem dX3_word_21 : decode cX3_word 21 = .ok (.iload_n 2, 1) := by decide +kernel
theorem dX3_word_22 : decode cX3_word 22 = .ok (.ifCond .eq 12, 3) := by decide +kernel
theorem dX3_word_25 : decode cX3_word 25 = .ok (.aload_n 0, 1) := by decide +kernel
theorem dX3_word_26 : decode cX3_word 26 = .ok (.getfield 13, 3) := by decide +kernel
theorem dX3_word_29 : decode cX3_word 29 = .ok (.iload_n 1, 1) := by decide +kernel
theorem dX3_word_30 : decode cX3_word 30 = .ok (.iaload, 1) := by decide +kernel
theorem dX3_word_31 : decode cX3_word 31 = .ok (.goto 9, 3) := by decide +kernel
theorem dX3_word_34 : decode cX3_word 34 = .ok (.aload_n 0, 1) := by decide +kernel
theorem dX3_word_35 : decode cX3_word 35 = .ok (.getfield 7, 3) := by decide +kernel
theorem dX3_word_38 : decode cX3_word 38 = .ok (.iload_n 1, 1) := by decide +kernel
theorem dX3_word_39 : decode cX3_word 39 = .ok (.iaload, 1) := by decide +kernel
theorem dX3_word_40 : decode cX3_word 40 = .ok (.ireturn, 1) := by decide +kernel
set_option maxRecDepth 20000 in
theorem ggX3_scribble_X3_is : GoodIn wsX3_scribble wsX3_is := goodIn_r _ [8] (by decide +kernel) (by decide +kernel)
set_option maxRecDepth 20000 in
theorem gX3_scribble_X3_is : GoodIn wsX3_scribble (wsV RX3 69 RX3 yX3_is wsX3_is) := goodIn_app (goodIn_of _ (by decide +kernel)) ggX3_scribble_X3_is
set_option maxRecDepth 20000 in
theorem ggX3_scribble_X3_not : GoodIn wsX3_scribble wsX3_not := goodIn_r _ [12, 3, 25, 26, 27, 28, 29, 30, 31, 32, 33, 34, 35, 36, 37, 38, 39, 40, 41, 42] (by decide +kernel) (by decide +kernel)
set_option maxRecDepth 20000 in
theorem gX3_scribble_X3_not : GoodIn wsX3_scribble (wsV RX3 112 RX3 yX3_not wsX3_not) := goodIn_app (goodIn_of _ (by decide +kernel)) ggX3_scribble_X3_not
set_option maxRecDepth 20000 in
theorem ggX3_scribble_X3_sizeAt : GoodIn wsX3_scribble wsX3_sizeAt := goodIn_r _ [16, 17, 25, 26, 27, 28, 29, 30, 31, 32, 33, 34, 35, 36, 37, 38, 39, 40, 41, 42] (by decide +kernel) (by decide +kernel)
set_option maxRecDepth 20000 in
theorem gX3_scribble_X3_sizeAt : GoodIn wsX3_scribble (wsV RX3 58 RX3 yX3_sizeAt wsX3_sizeAt) := goodIn_app (goodIn_of _ (by decide +kernel)) ggX3_scribble_X3_sizeAt
set_option maxRecDepth 20000 in
theorem ggX3_scribble_X3_write : GoodIn wsX3_scribble wsX3_write := goodIn_r _ [21, 17, 22, 23, 24, 25, 26, 27, 28, 29, 30, 31, 32, 33, 34, 35, 36, 37, 38, 39, 40, 41, 42] (by decide +kernel) (by decide +kernel)
set_option maxRecDepth 20000 in
theorem gX3_scribble_X3_write : GoodIn wsX3_scribble (wsV RX3 98 RX3 yX3_write wsX3_write) := goodIn_app (goodIn_of _ (by decide +kernel)) ggX3_scribble_X3_write
theorem dX3_scribble_0 : decode cX3_scribble 0 = .ok (.aload_n 0, 1) := by decide +kernel
theorem dX3_scribble_1 : decode cX3_scribble 1 = .ok (.iconst 0, 1) := by decide +kernel
theorem dX3_scribble_2 : decode cX3_scribble 2 = .ok (.putfield 47, 3) := by decide +kernel
theorem dX3_scribble_5 : decode cX3_scribble 5 = .ok (.aload_n 0, 1) := by decide +kernel
theorem dX3_scribble_6 : decode cX3_scribble 6 = .ok (.iload_n 1, 1) := by decide +kernel
theorem dX3_scribble_7 : decode cX3_scribble 7 = .ok (.bipush 16, 2) := by decide +kernel
theorem dX3_scribble_9 : decode cX3_scribble 9 = .ok (.sipush 4095, 3) := by decide +kernel
theorem dX3_scribble_12 : decode cX3_scribble 12 = .ok (.invokevirtual 69, 3) := by decide +kernel
theorem dX3_scribble_15 : decode cX3_scribble 15 = .ok (.ifCond .ne 9, 3) := by decide +kernel
theorem dX3_scribble_18 : decode cX3_scribble 18 = .ok (.aload_n 0, 1) := by decide +kernel
theorem dX3_scribble_19 : decode cX3_scribble 19 = .ok (.iconst 3, 1) := by decide +kernel
theorem dX3_scribble_20 : decode cX3_scribble 20 = .ok (.invokevirtual 112, 3) := by decide +kernel
theorem dX3_scribble_23 : decode cX3_scribble 23 = .ok (.ireturn, 1) := by decide +kernel
theorem dX3_scribble_24 : decode cX3_scribble 24 = .ok (.bipush 16, 2) := by decide +kernel
theorem dX3_scribble_26 : decode cX3_scribble 26 = .ok (.istore_n 3, 1) := by decide +kernel
theorem dX3_scribble_27 : decode cX3_scribble 27 = .ok (.iload_n 3, 1) := by decide +kernel
theorem dX3_scribble_28 : decode cX3_scribble 28 = .ok (.iload_n 1, 1) := by decide +kernel
theorem dX3_scribble_29 : decode cX3_scribble 29 = .ok (.if_icmp .gt 35, 3) := by decide +kernel
theorem dX3_scribble_32 : decode cX3_scribble 32 = .ok (.aload_n 0, 1) := by decide +kernel
theorem dX3_scribble_33 : decode cX3_scribble 33 = .ok (.getfield 16, 3) := by decide +kernel
theorem dX3_scribble_36 : decode cX3_scribble 36 = .ok (.iload_n 3, 1) := by decide +kernel
theorem dX3_scribble_37 : decode cX3_scribble 37 = .ok (.baload, 1) := by decide +kernel
theorem dX3_scribble_38 : decode cX3_scribble 38 = .ok (.ifCond .eq 20, 3) := by decide +kernel
theorem dX3_scribble_41 : decode cX3_scribble 41 = .ok (.iload_n 1, 1) := by decide +kernel
theorem dX3_scribble_42 : decode cX3_scribble 42 = .ok (.iload_n 3, 1) := by decide +kernel
theorem dX3_scribble_43 : decode cX3_scribble 43 = .ok (.aload_n 0, 1) := by decide +kernel
theorem dX3_scribble_44 : decode cX3_scribble 44 = .ok (.iload_n 3, 1) := by decide +kernel
theorem dX3_scribble_45 : decode cX3_scribble 45 = .ok (.invokevirtual 58, 3) := by decide +kernel
theorem dX3_scribble_48 : decode cX3_scribble 48 = .ok (.iadd, 1) := by decide +kernel
theorem dX3_scribble_49 : decode cX3_scribble 49 = .ok (.if_icmp .gt 9, 3) := by decide +kernel
theorem dX3_scribble_52 : decode cX3_scribble 52 = .ok (.aload_n 0, 1) := by decide +kernel
theorem dX3_scribble_53 : decode cX3_scribble 53 = .ok (.iconst 2, 1) := by decide +kernel
theorem dX3_scribble_54 : decode cX3_scribble 54 = .ok (.invokevirtual 112, 3) := by decide +kernel
theorem dX3_scribble_57 : decode cX3_scribble 57 = .ok (.ireturn, 1) := by decide +kernel
theorem dX3_scribble_58 : decode cX3_scribble 58 = .ok (.iinc 3 1, 3) := by decide +kernel
theorem dX3_scribble_61 : decode cX3_scribble 61 = .ok (.goto (-34), 3) := by decide +kernel
theorem dX3_scribble_64 : decode cX3_scribble 64 = .ok (.aload_n 0, 1) := by decide +kernel
theorem dX3_scribble_65 : decode cX3_scribble 65 = .ok (.iload_n 1, 1) := by decide +kernel
theorem dX3_scribble_66 : decode cX3_scribble 66 = .ok (.iload_n 2, 1) := by decide +kernel
theorem dX3_scribble_67 : decode cX3_scribble 67 = .ok (.invokevirtual 98, 3) := by decide +kernel
theorem dX3_scribble_70 : decode cX3_scribble 70 = .ok (.aload_n 0, 1) := by decide +kernel
theorem dX3_scribble_71 : decode cX3_scribble 71 = .ok (.iconst 0, 1) := by decide +kernel
theorem dX3_scribble_72 : decode cX3_scribble 72 = .ok (.putfield 51, 3) := by decide +kernel
theorem dX3_scribble_75 : decode cX3_scribble 75 = .ok (.iconst 1, 1) := by decide +kernel
theorem dX3_scribble_76 : decode cX3_scribble 76 = .ok (.ireturn, 1) := by decide +kernel
set_option maxRecDepth 20000 in
theorem ggX3_block_X3_isBlock : GoodIn wsX3_block wsX3_isBlock := goodIn_r _ [6, 7, 8, 9, 10, 5, 11, 33, 34, 35, 36, 37, 38, 39, 40, 41, 42, 43, 44, 45, 46, 47, 48, 49, 50] (by decide +kernel) (by decide +kernel)
set_option maxRecDepth 20000 in
theorem gX3_block_X3_isBlock : GoodIn wsX3_block (wsV RX3 102 RX3 yX3_isBlock wsX3_isBlock) := goodIn_app (goodIn_of _ (by decide +kernel)) ggX3_block_X3_isBlock
set_option maxRecDepth 20000 in
theorem ggX3_block_X3_sizeAt : GoodIn wsX3_block wsX3_sizeAt := goodIn_r _ [15, 16, 33, 34, 35, 36, 37, 38, 39, 40, 41, 42, 43, 44, 45, 46, 47, 48, 49, 50] (by decide +kernel) (by decide +kernel)
set_option maxRecDepth 20000 in
theorem gX3_block_X3_sizeAt : GoodIn wsX3_block (wsV RX3 58 RX3 yX3_sizeAt wsX3_sizeAt) := goodIn_app (goodIn_of _ (by decide +kernel)) ggX3_block_X3_sizeAt
set_option maxRecDepth 20000 in
theorem ggX3_block_X3_refsAt : GoodIn wsX3_block wsX3_refsAt := goodIn_r _ [20, 16, 33, 34, 35, 36, 37, 38, 39, 40, 41, 42, 43, 44, 45, 46, 47, 48, 49, 50] (by decide +kernel) (by decide +kernel)
set_option maxRecDepth 20000 in
theorem gX3_block_X3_refsAt : GoodIn wsX3_block (wsV RX3 62 RX3 yX3_refsAt wsX3_refsAt) := goodIn_app (goodIn_of _ (by decide +kernel)) ggX3_block_X3_refsAt
set_option maxRecDepth 20000 in
theorem ggX3_block_X3_classOf : GoodIn wsX3_block wsX3_classOf := goodIn_r _ [24] (by decide +kernel) (by decide +kernel)
set_option maxRecDepth 20000 in
theorem gX3_block_X3_classOf : GoodIn wsX3_block (wsV RX3 73 RX3 yX3_classOf wsX3_classOf) := goodIn_app (goodIn_of _ (by decide +kernel)) ggX3_block_X3_classOf
set_option maxRecDepth 20000 in
theorem ggX3_block_X3_orderOf : GoodIn wsX3_block wsX3_orderOf := goodIn_r _ [28] (by decide +kernel) (by decide +kernel)
set_option maxRecDepth 20000 in
theorem gX3_block_X3_orderOf : GoodIn wsX3_block (wsV RX3 76 RX3 yX3_orderOf wsX3_orderOf) := goodIn_app (goodIn_of _ (by decide +kernel)) ggX3_block_X3_orderOf
set_option maxRecDepth 20000 in
theorem ggX3_block_X3_leading : GoodIn wsX3_block wsX3_leading := goodIn_r _ [32, 16, 7, 17, 18, 19, 5, 20, 33, 34, 35, 36, 37, 38, 39, 40, 41, 42, 43, 44, 45, 46, 47, 48, 49, 50] (by decide +kernel) (by decide +kernel)
set_option maxRecDepth 20000 in
theorem gX3_block_X3_leading : GoodIn wsX3_block (wsV RX3 106 RX3 yX3_leading wsX3_leading) := goodIn_app (goodIn_of _ (by decide +kernel)) ggX3_block_X3_leading
theorem dX3_block_0 : decode cX3_block 0 = .ok (.aload_n 0, 1) := by decide +kernel
theorem dX3_block_1 : decode cX3_block 1 = .ok (.iconst 0, 1) := by decide +kernel
theorem dX3_block_2 : decode cX3_block 2 = .ok (.putfield 47, 3) := by decide +kernel
theorem dX3_block_5 : decode cX3_block 5 = .ok (.aload_n 0, 1) := by decide +kernel
theorem dX3_block_6 : decode cX3_block 6 = .ok (.iload_n 1, 1) := by decide +kernel
theorem dX3_block_7 : decode cX3_block 7 = .ok (.invokevirtual 102, 3) := by decide +kernel
theorem dX3_block_10 : decode cX3_block 10 = .ok (.ifCond .ne 5, 3) := by decide +kernel
theorem dX3_block_13 : decode cX3_block 13 = .ok (.iconst (-1), 1) := by decide +kernel
theorem dX3_block_14 : decode cX3_block 14 = .ok (.ireturn, 1) := by decide +kernel
theorem dX3_block_15 : decode cX3_block 15 = .ok (.aload_n 0, 1) := by decide +kernel
theorem dX3_block_16 : decode cX3_block 16 = .ok (.iload_n 1, 1) := by decide +kernel
theorem dX3_block_17 : decode cX3_block 17 = .ok (.invokevirtual 58, 3) := by decide +kernel
theorem dX3_block_20 : decode cX3_block 20 = .ok (.iconst 1, 1) := by decide +kernel
theorem dX3_block_21 : decode cX3_block 21 = .ok (.iadd, 1) := by decide +kernel
theorem dX3_block_22 : decode cX3_block 22 = .ok (.istore_n 3, 1) := by decide +kernel
theorem dX3_block_23 : decode cX3_block 23 = .ok (.iload_n 2, 1) := by decide +kernel
theorem dX3_block_24 : decode cX3_block 24 = .ok (.tableswitch 74 0 4 #[36, 40, 46, 52, 68], 36) := by decide +kernel
theorem dX3_block_60 : decode cX3_block 60 = .ok (.iload_n 3, 1) := by decide +kernel
theorem dX3_block_61 : decode cX3_block 61 = .ok (.iconst 1, 1) := by decide +kernel
theorem dX3_block_62 : decode cX3_block 62 = .ok (.isub, 1) := by decide +kernel
theorem dX3_block_63 : decode cX3_block 63 = .ok (.ireturn, 1) := by decide +kernel
theorem dX3_block_64 : decode cX3_block 64 = .ok (.aload_n 0, 1) := by decide +kernel
theorem dX3_block_65 : decode cX3_block 65 = .ok (.iload_n 1, 1) := by decide +kernel
theorem dX3_block_66 : decode cX3_block 66 = .ok (.invokevirtual 62, 3) := by decide +kernel
theorem dX3_block_69 : decode cX3_block 69 = .ok (.ireturn, 1) := by decide +kernel
theorem dX3_block_70 : decode cX3_block 70 = .ok (.aload_n 0, 1) := by decide +kernel
theorem dX3_block_71 : decode cX3_block 71 = .ok (.iload_n 3, 1) := by decide +kernel
theorem dX3_block_72 : decode cX3_block 72 = .ok (.invokevirtual 73, 3) := by decide +kernel
theorem dX3_block_75 : decode cX3_block 75 = .ok (.ireturn, 1) := by decide +kernel
theorem dX3_block_76 : decode cX3_block 76 = .ok (.iload_n 3, 1) := by decide +kernel
theorem dX3_block_77 : decode cX3_block 77 = .ok (.bipush 8, 2) := by decide +kernel
theorem dX3_block_79 : decode cX3_block 79 = .ok (.if_icmp .le 11, 3) := by decide +kernel
theorem dX3_block_82 : decode cX3_block 82 = .ok (.aload_n 0, 1) := by decide +kernel
theorem dX3_block_83 : decode cX3_block 83 = .ok (.iload_n 3, 1) := by decide +kernel
theorem dX3_block_84 : decode cX3_block 84 = .ok (.invokevirtual 76, 3) := by decide +kernel
theorem dX3_block_87 : decode cX3_block 87 = .ok (.goto 4, 3) := by decide +kernel
theorem dX3_block_90 : decode cX3_block 90 = .ok (.iconst (-1), 1) := by decide +kernel
theorem dX3_block_91 : decode cX3_block 91 = .ok (.ireturn, 1) := by decide +kernel
theorem dX3_block_92 : decode cX3_block 92 = .ok (.aload_n 0, 1) := by decide +kernel
theorem dX3_block_93 : decode cX3_block 93 = .ok (.iload_n 1, 1) := by decide +kernel
theorem dX3_block_94 : decode cX3_block 94 = .ok (.invokevirtual 106, 3) := by decide +kernel
theorem dX3_block_97 : decode cX3_block 97 = .ok (.ireturn, 1) := by decide +kernel
theorem dX3_block_98 : decode cX3_block 98 = .ok (.iconst (-1), 1) := by decide +kernel
theorem dX3_block_99 : decode cX3_block 99 = .ok (.ireturn, 1) := by decide +kernel
theorem dX3_live_0 : decode cX3_live 0 = .ok (.aload_n 0, 1) := by decide +kernel
theorem dX3_live_1 : decode cX3_live 1 = .ok (.iconst 0, 1) := by decide +kernel
theorem dX3_live_2 : decode cX3_live 2 = .ok (.putfield 47, 3) := by decide +kernel
theorem dX3_live_5 : decode cX3_live 5 = .ok (.iload_n 1, 1) := by decide +kernel
theorem dX3_live_6 : decode cX3_live 6 = .ok (.istore_n 2, 1) := by decide +kernel
theorem dX3_live_7 : decode cX3_live 7 = .ok (.bipush 16, 2) := by decide +kernel
theorem dX3_live_9 : decode cX3_live 9 = .ok (.istore_n 3, 1) := by decide +kernel
theorem dX3_live_10 : decode cX3_live 10 = .ok (.iload_n 3, 1) := by decide +kernel
theorem dX3_live_11 : decode cX3_live 11 = .ok (.sipush 4096, 3) := by decide +kernel
theorem dX3_live_14 : decode cX3_live 14 = .ok (.if_icmp .ge 34, 3) := by decide +kernel
theorem dX3_live_17 : decode cX3_live 17 = .ok (.iload_n 2, 1) := by decide +kernel
theorem dX3_live_18 : decode cX3_live 18 = .ok (.ifCond .lt 30, 3) := by decide +kernel
theorem dX3_live_21 : decode cX3_live 21 = .ok (.aload_n 0, 1) := by decide +kernel
theorem dX3_live_22 : decode cX3_live 22 = .ok (.getfield 16, 3) := by decide +kernel
theorem dX3_live_25 : decode cX3_live 25 = .ok (.iload_n 3, 1) := by decide +kernel
theorem dX3_live_26 : decode cX3_live 26 = .ok (.baload, 1) := by decide +kernel
theorem dX3_live_27 : decode cX3_live 27 = .ok (.ifCond .ne 6, 3) := by decide +kernel
theorem dX3_live_30 : decode cX3_live 30 = .ok (.goto 12, 3) := by decide +kernel
theorem dX3_live_33 : decode cX3_live 33 = .ok (.iload_n 2, 1) := by decide +kernel
theorem dX3_live_34 : decode cX3_live 34 = .ok (.ifCond .ne 5, 3) := by decide +kernel
theorem dX3_live_37 : decode cX3_live 37 = .ok (.iload_n 3, 1) := by decide +kernel
theorem dX3_live_38 : decode cX3_live 38 = .ok (.ireturn, 1) := by decide +kernel
theorem dX3_live_39 : decode cX3_live 39 = .ok (.iinc 2 (-1), 3) := by decide +kernel
theorem dX3_live_42 : decode cX3_live 42 = .ok (.iinc 3 1, 3) := by decide +kernel
theorem dX3_live_45 : decode cX3_live 45 = .ok (.goto (-35), 3) := by decide +kernel
theorem dX3_live_48 : decode cX3_live 48 = .ok (.iconst (-1), 1) := by decide +kernel
theorem dX3_live_49 : decode cX3_live 49 = .ok (.ireturn, 1) := by decide +kernel
set_option maxRecDepth 20000 in
theorem ggX3_page_X3_is : GoodIn wsX3_page wsX3_is := goodIn_r _ [10] (by decide +kernel) (by decide +kernel)
set_option maxRecDepth 20000 in
theorem gX3_page_X3_is : GoodIn wsX3_page (wsV RX3 69 RX3 yX3_is wsX3_is) := goodIn_app (goodIn_of _ (by decide +kernel)) ggX3_page_X3_is
set_option maxRecDepth 20000 in
theorem ggX3_page_X3_map : GoodIn wsX3_page wsX3_map := goodIn_r _ [14, 2, 3, 5, 4, 15, 16, 17, 18, 19, 9, 20, 21, 22, 23, 24, 25, 26, 27, 28, 29, 30, 31, 32, 33, 34, 35, 36, 37, 38, 39, 40, 41, 42, 43, 44, 45, 46, 47, 48, 49, 50, 51] (by decide +kernel) (by decide +kernel)
set_option maxRecDepth 20000 in
theorem gX3_page_X3_map : GoodIn wsX3_page (wsV RX3 83 RX3 yX3_map wsX3_map) := goodIn_app (goodIn_of _ (by decide +kernel)) ggX3_page_X3_map
theorem dX3_page_0 : decode cX3_page 0 = .ok (.aload_n 0, 1) := by decide +kernel
theorem dX3_page_1 : decode cX3_page 1 = .ok (.iconst 0, 1) := by decide +kernel
theorem dX3_page_2 : decode cX3_page 2 = .ok (.putfield 47, 3) := by decide +kernel
theorem dX3_page_5 : decode cX3_page 5 = .ok (.aload_n 0, 1) := by decide +kernel
theorem dX3_page_6 : decode cX3_page 6 = .ok (.iload_n 1, 1) := by decide +kernel
theorem dX3_page_7 : decode cX3_page 7 = .ok (.iconst 0, 1) := by decide +kernel
theorem dX3_page_8 : decode cX3_page 8 = .ok (.sipush 255, 3) := by decide +kernel
theorem dX3_page_11 : decode cX3_page 11 = .ok (.invokevirtual 69, 3) := by decide +kernel
theorem dX3_page_14 : decode cX3_page 14 = .ok (.ifCond .ne 5, 3) := by decide +kernel
theorem dX3_page_17 : decode cX3_page 17 = .ok (.iconst (-1), 1) := by decide +kernel
theorem dX3_page_18 : decode cX3_page 18 = .ok (.ireturn, 1) := by decide +kernel
theorem dX3_page_19 : decode cX3_page 19 = .ok (.aload_n 0, 1) := by decide +kernel
theorem dX3_page_20 : decode cX3_page 20 = .ok (.invokevirtual 83, 3) := by decide +kernel
theorem dX3_page_23 : decode cX3_page 23 = .ok (.iload_n 2, 1) := by decide +kernel
theorem dX3_page_24 : decode cX3_page 24 = .ok (.tableswitch 60 0 3 #[32, 39, 46, 53], 32) := by decide +kernel
theorem dX3_page_56 : decode cX3_page 56 = .ok (.aload_n 0, 1) := by decide +kernel
theorem dX3_page_57 : decode cX3_page 57 = .ok (.getfield 26, 3) := by decide +kernel
theorem dX3_page_60 : decode cX3_page 60 = .ok (.iload_n 1, 1) := by decide +kernel
theorem dX3_page_61 : decode cX3_page 61 = .ok (.iaload, 1) := by decide +kernel
theorem dX3_page_62 : decode cX3_page 62 = .ok (.ireturn, 1) := by decide +kernel
theorem dX3_page_63 : decode cX3_page 63 = .ok (.aload_n 0, 1) := by decide +kernel
theorem dX3_page_64 : decode cX3_page 64 = .ok (.getfield 29, 3) := by decide +kernel
theorem dX3_page_67 : decode cX3_page 67 = .ok (.iload_n 1, 1) := by decide +kernel
theorem dX3_page_68 : decode cX3_page 68 = .ok (.iaload, 1) := by decide +kernel
theorem dX3_page_69 : decode cX3_page 69 = .ok (.ireturn, 1) := by decide +kernel
theorem dX3_page_70 : decode cX3_page 70 = .ok (.aload_n 0, 1) := by decide +kernel
theorem dX3_page_71 : decode cX3_page 71 = .ok (.getfield 35, 3) := by decide +kernel
theorem dX3_page_74 : decode cX3_page 74 = .ok (.iload_n 1, 1) := by decide +kernel
theorem dX3_page_75 : decode cX3_page 75 = .ok (.iaload, 1) := by decide +kernel
theorem dX3_page_76 : decode cX3_page 76 = .ok (.ireturn, 1) := by decide +kernel
theorem dX3_page_77 : decode cX3_page 77 = .ok (.aload_n 0, 1) := by decide +kernel
theorem dX3_page_78 : decode cX3_page 78 = .ok (.getfield 32, 3) := by decide +kernel
theorem dX3_page_81 : decode cX3_page 81 = .ok (.iload_n 1, 1) := by decide +kernel
theorem dX3_page_82 : decode cX3_page 82 = .ok (.iaload, 1) := by decide +kernel
theorem dX3_page_83 : decode cX3_page 83 = .ok (.ireturn, 1) := by decide +kernel
theorem dX3_page_84 : decode cX3_page 84 = .ok (.iconst (-1), 1) := by decide +kernel
theorem dX3_page_85 : decode cX3_page 85 = .ok (.ireturn, 1) := by decide +kernel
set_option maxRecDepth 20000 in
theorem ggX3_extents_X3_is : GoodIn wsX3_extents wsX3_is := goodIn_r _ [8] (by decide +kernel) (by decide +kernel)
set_option maxRecDepth 20000 in
theorem gX3_extents_X3_is : GoodIn wsX3_extents (wsV RX3 69 RX3 yX3_is wsX3_is) := goodIn_app (goodIn_of _ (by decide +kernel)) ggX3_extents_X3_is
set_option maxRecDepth 20000 in
theorem ggX3_extents_X3_map : GoodIn wsX3_extents wsX3_map := goodIn_r _ [12, 13, 14, 3, 15, 2, 16, 17, 18, 19, 7, 20, 21, 22, 23, 24, 25, 26, 27, 28, 29, 30, 31, 32, 33, 34, 35, 36, 37, 38, 39, 40, 41, 42, 43, 44, 45, 46, 47, 48, 49, 50, 51] (by decide +kernel) (by decide +kernel)
set_option maxRecDepth 20000 in
theorem gX3_extents_X3_map : GoodIn wsX3_extents (wsV RX3 83 RX3 yX3_map wsX3_map) := goodIn_app (goodIn_of _ (by decide +kernel)) ggX3_extents_X3_map
theorem dX3_extents_0 : decode cX3_extents 0 = .ok (.aload_n 0, 1) := by decide +kernel
theorem dX3_extents_1 : decode cX3_extents 1 = .ok (.iconst 0, 1) := by decide +kernel
theorem dX3_extents_2 : decode cX3_extents 2 = .ok (.putfield 47, 3) := by decide +kernel
theorem dX3_extents_5 : decode cX3_extents 5 = .ok (.aload_n 0, 1) := by decide +kernel
theorem dX3_extents_6 : decode cX3_extents 6 = .ok (.iload_n 1, 1) := by decide +kernel
theorem dX3_extents_7 : decode cX3_extents 7 = .ok (.iconst 0, 1) := by decide +kernel
theorem dX3_extents_8 : decode cX3_extents 8 = .ok (.bipush 8, 2) := by decide +kernel
theorem dX3_extents_10 : decode cX3_extents 10 = .ok (.invokevirtual 69, 3) := by decide +kernel
theorem dX3_extents_13 : decode cX3_extents 13 = .ok (.ifCond .ne 5, 3) := by decide +kernel
theorem dX3_extents_16 : decode cX3_extents 16 = .ok (.iconst (-1), 1) := by decide +kernel
theorem dX3_extents_17 : decode cX3_extents 17 = .ok (.ireturn, 1) := by decide +kernel
theorem dX3_extents_18 : decode cX3_extents 18 = .ok (.aload_n 0, 1) := by decide +kernel
theorem dX3_extents_19 : decode cX3_extents 19 = .ok (.invokevirtual 83, 3) := by decide +kernel
theorem dX3_extents_22 : decode cX3_extents 22 = .ok (.iconst 0, 1) := by decide +kernel
theorem dX3_extents_23 : decode cX3_extents 23 = .ok (.istore_n 2, 1) := by decide +kernel
theorem dX3_extents_24 : decode cX3_extents 24 = .ok (.iconst 0, 1) := by decide +kernel
theorem dX3_extents_25 : decode cX3_extents 25 = .ok (.istore_n 3, 1) := by decide +kernel
theorem dX3_extents_26 : decode cX3_extents 26 = .ok (.iload_n 3, 1) := by decide +kernel
theorem dX3_extents_27 : decode cX3_extents 27 = .ok (.sipush 256, 3) := by decide +kernel
theorem dX3_extents_30 : decode cX3_extents 30 = .ok (.if_icmp .ge 37, 3) := by decide +kernel
theorem dX3_extents_33 : decode cX3_extents 33 = .ok (.iload_n 2, 1) := by decide +kernel
theorem dX3_extents_34 : decode cX3_extents 34 = .ok (.aload_n 0, 1) := by decide +kernel
theorem dX3_extents_35 : decode cX3_extents 35 = .ok (.getfield 38, 3) := by decide +kernel
theorem dX3_extents_38 : decode cX3_extents 38 = .ok (.iload_n 3, 1) := by decide +kernel
theorem dX3_extents_39 : decode cX3_extents 39 = .ok (.iaload, 1) := by decide +kernel
theorem dX3_extents_40 : decode cX3_extents 40 = .ok (.iload_n 1, 1) := by decide +kernel
theorem dX3_extents_41 : decode cX3_extents 41 = .ok (.if_icmp .ne 17, 3) := by decide +kernel
theorem dX3_extents_44 : decode cX3_extents 44 = .ok (.aload_n 0, 1) := by decide +kernel
theorem dX3_extents_45 : decode cX3_extents 45 = .ok (.getfield 32, 3) := by decide +kernel
theorem dX3_extents_48 : decode cX3_extents 48 = .ok (.iload_n 3, 1) := by decide +kernel
theorem dX3_extents_49 : decode cX3_extents 49 = .ok (.iaload, 1) := by decide +kernel
theorem dX3_extents_50 : decode cX3_extents 50 = .ok (.iload_n 3, 1) := by decide +kernel
theorem dX3_extents_51 : decode cX3_extents 51 = .ok (.if_icmp .ne 7, 3) := by decide +kernel
theorem dX3_extents_54 : decode cX3_extents 54 = .ok (.iconst 1, 1) := by decide +kernel
theorem dX3_extents_55 : decode cX3_extents 55 = .ok (.goto 4, 3) := by decide +kernel
theorem dX3_extents_58 : decode cX3_extents 58 = .ok (.iconst 0, 1) := by decide +kernel
theorem dX3_extents_59 : decode cX3_extents 59 = .ok (.iadd, 1) := by decide +kernel
theorem dX3_extents_60 : decode cX3_extents 60 = .ok (.istore_n 2, 1) := by decide +kernel
theorem dX3_extents_61 : decode cX3_extents 61 = .ok (.iinc 3 1, 3) := by decide +kernel
theorem dX3_extents_64 : decode cX3_extents 64 = .ok (.goto (-38), 3) := by decide +kernel
theorem dX3_extents_67 : decode cX3_extents 67 = .ok (.iload_n 2, 1) := by decide +kernel
theorem dX3_extents_68 : decode cX3_extents 68 = .ok (.ireturn, 1) := by decide +kernel
set_option maxRecDepth 20000 in
theorem ggX3_next_X3_is : GoodIn wsX3_next wsX3_is := goodIn_r _ [6] (by decide +kernel) (by decide +kernel)
set_option maxRecDepth 20000 in
theorem gX3_next_X3_is : GoodIn wsX3_next (wsV RX3 69 RX3 yX3_is wsX3_is) := goodIn_app (goodIn_of _ (by decide +kernel)) ggX3_next_X3_is
set_option maxRecDepth 20000 in
theorem ggX3_next_X3_map : GoodIn wsX3_next wsX3_map := goodIn_r _ [10, 11, 12, 13, 14, 15, 16, 17, 18, 19, 5, 20, 21, 22, 23, 24, 25, 26, 27, 28, 29, 30, 31, 32, 33, 38, 39, 40, 41, 42, 43, 44, 45, 46, 47, 48, 49, 50, 51, 52, 53, 54, 55] (by decide +kernel) (by decide +kernel)
set_option maxRecDepth 20000 in
theorem gX3_next_X3_map : GoodIn wsX3_next (wsV RX3 83 RX3 yX3_map wsX3_map) := goodIn_app (goodIn_of _ (by decide +kernel)) ggX3_next_X3_map
set_option maxRecDepth 20000 in
theorem ggX3_next_X3_taken : GoodIn wsX3_next wsX3_taken := goodIn_r _ [37, 15, 13, 38, 39, 40, 41, 42, 43, 44, 45, 46, 47, 48, 49, 50, 51, 52, 53, 54, 55] (by decide +kernel) (by decide +kernel)
set_option maxRecDepth 20000 in
theorem gX3_next_X3_taken : GoodIn wsX3_next (wsV RX3 86 RX3 yX3_taken wsX3_taken) := goodIn_app (goodIn_of _ (by decide +kernel)) ggX3_next_X3_taken
theorem dX3_next_0 : decode cX3_next 0 = .ok (.aload_n 0, 1) := by decide +kernel
theorem dX3_next_1 : decode cX3_next 1 = .ok (.iconst 0, 1) := by decide +kernel
theorem dX3_next_2 : decode cX3_next 2 = .ok (.putfield 47, 3) := by decide +kernel
theorem dX3_next_5 : decode cX3_next 5 = .ok (.aload_n 0, 1) := by decide +kernel
theorem dX3_next_6 : decode cX3_next 6 = .ok (.iload_n 1, 1) := by decide +kernel
theorem dX3_next_7 : decode cX3_next 7 = .ok (.iconst 0, 1) := by decide +kernel
theorem dX3_next_8 : decode cX3_next 8 = .ok (.bipush 8, 2) := by decide +kernel
theorem dX3_next_10 : decode cX3_next 10 = .ok (.invokevirtual 69, 3) := by decide +kernel
theorem dX3_next_13 : decode cX3_next 13 = .ok (.ifCond .ne 5, 3) := by decide +kernel
theorem dX3_next_16 : decode cX3_next 16 = .ok (.iconst (-1), 1) := by decide +kernel
theorem dX3_next_17 : decode cX3_next 17 = .ok (.ireturn, 1) := by decide +kernel
theorem dX3_next_18 : decode cX3_next 18 = .ok (.aload_n 0, 1) := by decide +kernel
theorem dX3_next_19 : decode cX3_next 19 = .ok (.invokevirtual 83, 3) := by decide +kernel
theorem dX3_next_22 : decode cX3_next 22 = .ok (.aload_n 0, 1) := by decide +kernel
theorem dX3_next_23 : decode cX3_next 23 = .ok (.iload_n 1, 1) := by decide +kernel
theorem dX3_next_24 : decode cX3_next 24 = .ok (.invokevirtual 86, 3) := by decide +kernel
theorem dX3_next_27 : decode cX3_next 27 = .ok (.ireturn, 1) := by decide +kernel
set_option maxRecDepth 20000 in
theorem ggX3_count_X3_map : GoodIn wsX3_count wsX3_map := goodIn_r _ [12, 3, 13, 14, 4, 15, 2, 16, 17, 18, 11, 19, 20, 21, 22, 23, 24, 25, 26, 27, 28, 29, 30, 31, 32, 37, 38, 39, 40, 41, 42, 43, 44, 45, 46, 47, 48, 49, 50, 51, 52, 53, 54] (by decide +kernel) (by decide +kernel)
set_option maxRecDepth 20000 in
theorem gX3_count_X3_map : GoodIn wsX3_count (wsV RX3 83 RX3 yX3_map wsX3_map) := goodIn_app (goodIn_of _ (by decide +kernel)) ggX3_count_X3_map
set_option maxRecDepth 20000 in
theorem ggX3_count_X3_slots : GoodIn wsX3_count wsX3_slots := goodIn_r _ [36, 13, 37, 38, 39, 40, 41, 42, 43, 44, 45, 46, 47, 48, 49, 50, 51, 52, 53, 54] (by decide +kernel) (by decide +kernel)
set_option maxRecDepth 20000 in
theorem gX3_count_X3_slots : GoodIn wsX3_count (wsV RX3 89 RX3 yX3_slots wsX3_slots) := goodIn_app (goodIn_of _ (by decide +kernel)) ggX3_count_X3_slots
set_option maxRecDepth 20000 in
theorem ggX3_count_X3_sizeAt : GoodIn wsX3_count wsX3_sizeAt := goodIn_r _ [19, 20, 37, 38, 39, 40, 41, 42, 43, 44, 45, 46, 47, 48, 49, 50, 51, 52, 53, 54] (by decide +kernel) (by decide +kernel)
set_option maxRecDepth 20000 in
theorem gX3_count_X3_sizeAt : GoodIn wsX3_count (wsV RX3 58 RX3 yX3_sizeAt wsX3_sizeAt) := goodIn_app (goodIn_of _ (by decide +kernel)) ggX3_count_X3_sizeAt
theorem dX3_count_0 : decode cX3_count 0 = .ok (.aload_n 0, 1) := by decide +kernel
theorem dX3_count_1 : decode cX3_count 1 = .ok (.iconst 0, 1) := by decide +kernel
theorem dX3_count_2 : decode cX3_count 2 = .ok (.putfield 47, 3) := by decide +kernel
theorem dX3_count_5 : decode cX3_count 5 = .ok (.aload_n 0, 1) := by decide +kernel
theorem dX3_count_6 : decode cX3_count 6 = .ok (.invokevirtual 83, 3) := by decide +kernel
theorem dX3_count_9 : decode cX3_count 9 = .ok (.iconst 0, 1) := by decide +kernel
theorem dX3_count_10 : decode cX3_count 10 = .ok (.istore_n 2, 1) := by decide +kernel
theorem dX3_count_11 : decode cX3_count 11 = .ok (.iload_n 1, 1) := by decide +kernel
theorem dX3_count_12 : decode cX3_count 12 = .ok (.tableswitch 254 0 7 #[48, 83, 117, 152, 198, 203, 208, 249], 48) := by decide +kernel
theorem dX3_count_60 : decode cX3_count 60 = .ok (.bipush 16, 2) := by decide +kernel
theorem dX3_count_62 : decode cX3_count 62 = .ok (.istore_n 3, 1) := by decide +kernel
theorem dX3_count_63 : decode cX3_count 63 = .ok (.iload_n 3, 1) := by decide +kernel
theorem dX3_count_64 : decode cX3_count 64 = .ok (.sipush 4096, 3) := by decide +kernel
theorem dX3_count_67 : decode cX3_count 67 = .ok (.if_icmp .ge 26, 3) := by decide +kernel
theorem dX3_count_70 : decode cX3_count 70 = .ok (.iload_n 2, 1) := by decide +kernel
theorem dX3_count_71 : decode cX3_count 71 = .ok (.aload_n 0, 1) := by decide +kernel
theorem dX3_count_72 : decode cX3_count 72 = .ok (.getfield 16, 3) := by decide +kernel
theorem dX3_count_75 : decode cX3_count 75 = .ok (.iload_n 3, 1) := by decide +kernel
theorem dX3_count_76 : decode cX3_count 76 = .ok (.baload, 1) := by decide +kernel
theorem dX3_count_77 : decode cX3_count 77 = .ok (.ifCond .eq 7, 3) := by decide +kernel
theorem dX3_count_80 : decode cX3_count 80 = .ok (.iconst 1, 1) := by decide +kernel
theorem dX3_count_81 : decode cX3_count 81 = .ok (.goto 4, 3) := by decide +kernel
theorem dX3_count_84 : decode cX3_count 84 = .ok (.iconst 0, 1) := by decide +kernel
theorem dX3_count_85 : decode cX3_count 85 = .ok (.iadd, 1) := by decide +kernel
theorem dX3_count_86 : decode cX3_count 86 = .ok (.istore_n 2, 1) := by decide +kernel
theorem dX3_count_87 : decode cX3_count 87 = .ok (.iinc 3 1, 3) := by decide +kernel
theorem dX3_count_90 : decode cX3_count 90 = .ok (.goto (-27), 3) := by decide +kernel
theorem dX3_count_93 : decode cX3_count 93 = .ok (.iload_n 2, 1) := by decide +kernel
theorem dX3_count_94 : decode cX3_count 94 = .ok (.ireturn, 1) := by decide +kernel
theorem dX3_count_95 : decode cX3_count 95 = .ok (.iconst 0, 1) := by decide +kernel
theorem dX3_count_96 : decode cX3_count 96 = .ok (.istore_n 3, 1) := by decide +kernel
theorem dX3_count_97 : decode cX3_count 97 = .ok (.iload_n 3, 1) := by decide +kernel
theorem dX3_count_98 : decode cX3_count 98 = .ok (.sipush 256, 3) := by decide +kernel
theorem dX3_count_101 : decode cX3_count 101 = .ok (.if_icmp .ge 26, 3) := by decide +kernel
theorem dX3_count_104 : decode cX3_count 104 = .ok (.iload_n 2, 1) := by decide +kernel
theorem dX3_count_105 : decode cX3_count 105 = .ok (.aload_n 0, 1) := by decide +kernel
theorem dX3_count_106 : decode cX3_count 106 = .ok (.getfield 26, 3) := by decide +kernel
theorem dX3_count_109 : decode cX3_count 109 = .ok (.iload_n 3, 1) := by decide +kernel
theorem dX3_count_110 : decode cX3_count 110 = .ok (.iaload, 1) := by decide +kernel
theorem dX3_count_111 : decode cX3_count 111 = .ok (.ifCond .ne 7, 3) := by decide +kernel
theorem dX3_count_114 : decode cX3_count 114 = .ok (.iconst 1, 1) := by decide +kernel
theorem dX3_count_115 : decode cX3_count 115 = .ok (.goto 4, 3) := by decide +kernel
theorem dX3_count_118 : decode cX3_count 118 = .ok (.iconst 0, 1) := by decide +kernel
theorem dX3_count_119 : decode cX3_count 119 = .ok (.iadd, 1) := by decide +kernel
theorem dX3_count_120 : decode cX3_count 120 = .ok (.istore_n 2, 1) := by decide +kernel
theorem dX3_count_121 : decode cX3_count 121 = .ok (.iinc 3 1, 3) := by decide +kernel
theorem dX3_count_124 : decode cX3_count 124 = .ok (.goto (-27), 3) := by decide +kernel
theorem dX3_count_127 : decode cX3_count 127 = .ok (.iload_n 2, 1) := by decide +kernel
theorem dX3_count_128 : decode cX3_count 128 = .ok (.ireturn, 1) := by decide +kernel
theorem dX3_count_129 : decode cX3_count 129 = .ok (.iconst 0, 1) := by decide +kernel
theorem dX3_count_130 : decode cX3_count 130 = .ok (.istore_n 3, 1) := by decide +kernel
theorem dX3_count_131 : decode cX3_count 131 = .ok (.iload_n 3, 1) := by decide +kernel
theorem dX3_count_132 : decode cX3_count 132 = .ok (.sipush 256, 3) := by decide +kernel
theorem dX3_count_135 : decode cX3_count 135 = .ok (.if_icmp .ge 27, 3) := by decide +kernel
theorem dX3_count_138 : decode cX3_count 138 = .ok (.iload_n 2, 1) := by decide +kernel
theorem dX3_count_139 : decode cX3_count 139 = .ok (.aload_n 0, 1) := by decide +kernel
theorem dX3_count_140 : decode cX3_count 140 = .ok (.getfield 26, 3) := by decide +kernel
theorem dX3_count_143 : decode cX3_count 143 = .ok (.iload_n 3, 1) := by decide +kernel
theorem dX3_count_144 : decode cX3_count 144 = .ok (.iaload, 1) := by decide +kernel
theorem dX3_count_145 : decode cX3_count 145 = .ok (.iconst 1, 1) := by decide +kernel
theorem dX3_count_146 : decode cX3_count 146 = .ok (.if_icmp .ne 7, 3) := by decide +kernel
theorem dX3_count_149 : decode cX3_count 149 = .ok (.iconst 1, 1) := by decide +kernel
theorem dX3_count_150 : decode cX3_count 150 = .ok (.goto 4, 3) := by decide +kernel
theorem dX3_count_153 : decode cX3_count 153 = .ok (.iconst 0, 1) := by decide +kernel
theorem dX3_count_154 : decode cX3_count 154 = .ok (.iadd, 1) := by decide +kernel
theorem dX3_count_155 : decode cX3_count 155 = .ok (.istore_n 2, 1) := by decide +kernel
theorem dX3_count_156 : decode cX3_count 156 = .ok (.iinc 3 1, 3) := by decide +kernel
theorem dX3_count_159 : decode cX3_count 159 = .ok (.goto (-28), 3) := by decide +kernel
theorem dX3_count_162 : decode cX3_count 162 = .ok (.iload_n 2, 1) := by decide +kernel
theorem dX3_count_163 : decode cX3_count 163 = .ok (.ireturn, 1) := by decide +kernel
theorem dX3_count_164 : decode cX3_count 164 = .ok (.iconst 0, 1) := by decide +kernel
theorem dX3_count_165 : decode cX3_count 165 = .ok (.istore_n 3, 1) := by decide +kernel
theorem dX3_count_166 : decode cX3_count 166 = .ok (.iload_n 3, 1) := by decide +kernel
theorem dX3_count_167 : decode cX3_count 167 = .ok (.sipush 256, 3) := by decide +kernel
theorem dX3_count_170 : decode cX3_count 170 = .ok (.if_icmp .ge 38, 3) := by decide +kernel
theorem dX3_count_173 : decode cX3_count 173 = .ok (.iload_n 2, 1) := by decide +kernel
theorem dX3_count_174 : decode cX3_count 174 = .ok (.aload_n 0, 1) := by decide +kernel
theorem dX3_count_175 : decode cX3_count 175 = .ok (.getfield 26, 3) := by decide +kernel
theorem dX3_count_178 : decode cX3_count 178 = .ok (.iload_n 3, 1) := by decide +kernel
theorem dX3_count_179 : decode cX3_count 179 = .ok (.iaload, 1) := by decide +kernel
theorem dX3_count_180 : decode cX3_count 180 = .ok (.iconst 1, 1) := by decide +kernel
theorem dX3_count_181 : decode cX3_count 181 = .ok (.if_icmp .ne 18, 3) := by decide +kernel
theorem dX3_count_184 : decode cX3_count 184 = .ok (.aload_n 0, 1) := by decide +kernel
theorem dX3_count_185 : decode cX3_count 185 = .ok (.iload_n 3, 1) := by decide +kernel
theorem dX3_count_186 : decode cX3_count 186 = .ok (.invokevirtual 89, 3) := by decide +kernel
theorem dX3_count_189 : decode cX3_count 189 = .ok (.aload_n 0, 1) := by decide +kernel
theorem dX3_count_190 : decode cX3_count 190 = .ok (.getfield 35, 3) := by decide +kernel
theorem dX3_count_193 : decode cX3_count 193 = .ok (.iload_n 3, 1) := by decide +kernel
theorem dX3_count_194 : decode cX3_count 194 = .ok (.iaload, 1) := by decide +kernel
theorem dX3_count_195 : decode cX3_count 195 = .ok (.isub, 1) := by decide +kernel
theorem dX3_count_196 : decode cX3_count 196 = .ok (.goto 4, 3) := by decide +kernel
theorem dX3_count_199 : decode cX3_count 199 = .ok (.iconst 0, 1) := by decide +kernel
theorem dX3_count_200 : decode cX3_count 200 = .ok (.iadd, 1) := by decide +kernel
theorem dX3_count_201 : decode cX3_count 201 = .ok (.istore_n 2, 1) := by decide +kernel
theorem dX3_count_202 : decode cX3_count 202 = .ok (.iinc 3 1, 3) := by decide +kernel
theorem dX3_count_205 : decode cX3_count 205 = .ok (.goto (-39), 3) := by decide +kernel
theorem dX3_count_208 : decode cX3_count 208 = .ok (.iload_n 2, 1) := by decide +kernel
theorem dX3_count_209 : decode cX3_count 209 = .ok (.ireturn, 1) := by decide +kernel
theorem dX3_count_210 : decode cX3_count 210 = .ok (.aload_n 0, 1) := by decide +kernel
theorem dX3_count_211 : decode cX3_count 211 = .ok (.getfield 54, 3) := by decide +kernel
theorem dX3_count_214 : decode cX3_count 214 = .ok (.ireturn, 1) := by decide +kernel
theorem dX3_count_215 : decode cX3_count 215 = .ok (.aload_n 0, 1) := by decide +kernel
theorem dX3_count_216 : decode cX3_count 216 = .ok (.getfield 125, 3) := by decide +kernel
theorem dX3_count_219 : decode cX3_count 219 = .ok (.ireturn, 1) := by decide +kernel
theorem dX3_count_220 : decode cX3_count 220 = .ok (.bipush 16, 2) := by decide +kernel
theorem dX3_count_222 : decode cX3_count 222 = .ok (.istore_n 3, 1) := by decide +kernel
theorem dX3_count_223 : decode cX3_count 223 = .ok (.iload_n 3, 1) := by decide +kernel
theorem dX3_count_224 : decode cX3_count 224 = .ok (.sipush 4096, 3) := by decide +kernel
theorem dX3_count_227 : decode cX3_count 227 = .ok (.if_icmp .ge 32, 3) := by decide +kernel
theorem dX3_count_230 : decode cX3_count 230 = .ok (.iload_n 2, 1) := by decide +kernel
theorem dX3_count_231 : decode cX3_count 231 = .ok (.aload_n 0, 1) := by decide +kernel
theorem dX3_count_232 : decode cX3_count 232 = .ok (.getfield 16, 3) := by decide +kernel
theorem dX3_count_235 : decode cX3_count 235 = .ok (.iload_n 3, 1) := by decide +kernel
theorem dX3_count_236 : decode cX3_count 236 = .ok (.baload, 1) := by decide +kernel
theorem dX3_count_237 : decode cX3_count 237 = .ok (.ifCond .eq 13, 3) := by decide +kernel
theorem dX3_count_240 : decode cX3_count 240 = .ok (.aload_n 0, 1) := by decide +kernel
theorem dX3_count_241 : decode cX3_count 241 = .ok (.iload_n 3, 1) := by decide +kernel
theorem dX3_count_242 : decode cX3_count 242 = .ok (.invokevirtual 58, 3) := by decide +kernel
theorem dX3_count_245 : decode cX3_count 245 = .ok (.iconst 1, 1) := by decide +kernel
theorem dX3_count_246 : decode cX3_count 246 = .ok (.iadd, 1) := by decide +kernel
theorem dX3_count_247 : decode cX3_count 247 = .ok (.goto 4, 3) := by decide +kernel
theorem dX3_count_250 : decode cX3_count 250 = .ok (.iconst 0, 1) := by decide +kernel
theorem dX3_count_251 : decode cX3_count 251 = .ok (.iadd, 1) := by decide +kernel
theorem dX3_count_252 : decode cX3_count 252 = .ok (.istore_n 2, 1) := by decide +kernel
theorem dX3_count_253 : decode cX3_count 253 = .ok (.iinc 3 1, 3) := by decide +kernel
theorem dX3_count_256 : decode cX3_count 256 = .ok (.goto (-33), 3) := by decide +kernel
theorem dX3_count_259 : decode cX3_count 259 = .ok (.iload_n 2, 1) := by decide +kernel
theorem dX3_count_260 : decode cX3_count 260 = .ok (.ireturn, 1) := by decide +kernel
theorem dX3_count_261 : decode cX3_count 261 = .ok (.aload_n 0, 1) := by decide +kernel
theorem dX3_count_262 : decode cX3_count 262 = .ok (.getfield 122, 3) := by decide +kernel
theorem dX3_count_265 : decode cX3_count 265 = .ok (.ireturn, 1) := by decide +kernel
theorem dX3_count_266 : decode cX3_count 266 = .ok (.iconst (-1), 1) := by decide +kernel
theorem dX3_count_267 : decode cX3_count 267 = .ok (.ireturn, 1) := by decide +kernel
set_option maxRecDepth 20000 in
theorem ggX3_head_X3_is : GoodIn wsX3_head wsX3_is := goodIn_r _ [6] (by decide +kernel) (by decide +kernel)
set_option maxRecDepth 20000 in
theorem gX3_head_X3_is : GoodIn wsX3_head (wsV RX3 69 RX3 yX3_is wsX3_is) := goodIn_app (goodIn_of _ (by decide +kernel)) ggX3_head_X3_is
set_option maxRecDepth 20000 in
theorem ggX3_head_X3_headOf : GoodIn wsX3_head wsX3_headOf := goodIn_r _ [10, 11] (by decide +kernel) (by decide +kernel)
set_option maxRecDepth 20000 in
theorem gX3_head_X3_headOf : GoodIn wsX3_head (wsV RX3 65 RX3 yX3_headOf wsX3_headOf) := goodIn_app (goodIn_of _ (by decide +kernel)) ggX3_head_X3_headOf
theorem dX3_head_0 : decode cX3_head 0 = .ok (.aload_n 0, 1) := by decide +kernel
theorem dX3_head_1 : decode cX3_head 1 = .ok (.iconst 0, 1) := by decide +kernel
theorem dX3_head_2 : decode cX3_head 2 = .ok (.putfield 47, 3) := by decide +kernel
theorem dX3_head_5 : decode cX3_head 5 = .ok (.aload_n 0, 1) := by decide +kernel
theorem dX3_head_6 : decode cX3_head 6 = .ok (.iload_n 1, 1) := by decide +kernel
theorem dX3_head_7 : decode cX3_head 7 = .ok (.bipush 16, 2) := by decide +kernel
theorem dX3_head_9 : decode cX3_head 9 = .ok (.sipush 4095, 3) := by decide +kernel
theorem dX3_head_12 : decode cX3_head 12 = .ok (.invokevirtual 69, 3) := by decide +kernel
theorem dX3_head_15 : decode cX3_head 15 = .ok (.ifCond .eq 35, 3) := by decide +kernel
theorem dX3_head_18 : decode cX3_head 18 = .ok (.aload_n 0, 1) := by decide +kernel
theorem dX3_head_19 : decode cX3_head 19 = .ok (.iload_n 2, 1) := by decide +kernel
theorem dX3_head_20 : decode cX3_head 20 = .ok (.iconst 1, 1) := by decide +kernel
theorem dX3_head_21 : decode cX3_head 21 = .ok (.sipush 2047, 3) := by decide +kernel
theorem dX3_head_24 : decode cX3_head 24 = .ok (.invokevirtual 69, 3) := by decide +kernel
theorem dX3_head_27 : decode cX3_head 27 = .ok (.ifCond .eq 23, 3) := by decide +kernel
theorem dX3_head_30 : decode cX3_head 30 = .ok (.aload_n 0, 1) := by decide +kernel
theorem dX3_head_31 : decode cX3_head 31 = .ok (.iload_n 3, 1) := by decide +kernel
theorem dX3_head_32 : decode cX3_head 32 = .ok (.iconst 0, 1) := by decide +kernel
theorem dX3_head_33 : decode cX3_head 33 = .ok (.iload_n 2, 1) := by decide +kernel
theorem dX3_head_34 : decode cX3_head 34 = .ok (.invokevirtual 69, 3) := by decide +kernel
theorem dX3_head_37 : decode cX3_head 37 = .ok (.ifCond .eq 13, 3) := by decide +kernel
theorem dX3_head_40 : decode cX3_head 40 = .ok (.aload_n 0, 1) := by decide +kernel
theorem dX3_head_41 : decode cX3_head 41 = .ok (.iload_n 1, 1) := by decide +kernel
theorem dX3_head_42 : decode cX3_head 42 = .ok (.iload_n 2, 1) := by decide +kernel
theorem dX3_head_43 : decode cX3_head 43 = .ok (.iload_n 3, 1) := by decide +kernel
theorem dX3_head_44 : decode cX3_head 44 = .ok (.invokevirtual 65, 3) := by decide +kernel
theorem dX3_head_47 : decode cX3_head 47 = .ok (.goto 4, 3) := by decide +kernel
theorem dX3_head_50 : decode cX3_head 50 = .ok (.iconst 0, 1) := by decide +kernel
theorem dX3_head_51 : decode cX3_head 51 = .ok (.ireturn, 1) := by decide +kernel
set_option maxRecDepth 20000 in
theorem ggX3_waits_X3_is : GoodIn wsX3_waits wsX3_is := goodIn_r _ [8] (by decide +kernel) (by decide +kernel)
set_option maxRecDepth 20000 in
theorem gX3_waits_X3_is : GoodIn wsX3_waits (wsV RX3 69 RX3 yX3_is wsX3_is) := goodIn_app (goodIn_of _ (by decide +kernel)) ggX3_waits_X3_is
theorem dX3_waits_0 : decode cX3_waits 0 = .ok (.aload_n 0, 1) := by decide +kernel
theorem dX3_waits_1 : decode cX3_waits 1 = .ok (.iconst 0, 1) := by decide +kernel
theorem dX3_waits_2 : decode cX3_waits 2 = .ok (.putfield 47, 3) := by decide +kernel
theorem dX3_waits_5 : decode cX3_waits 5 = .ok (.aload_n 0, 1) := by decide +kernel
theorem dX3_waits_6 : decode cX3_waits 6 = .ok (.iload_n 1, 1) := by decide +kernel
theorem dX3_waits_7 : decode cX3_waits 7 = .ok (.iconst 0, 1) := by decide +kernel
theorem dX3_waits_8 : decode cX3_waits 8 = .ok (.aload_n 0, 1) := by decide +kernel
theorem dX3_waits_9 : decode cX3_waits 9 = .ok (.getfield 54, 3) := by decide +kernel
theorem dX3_waits_12 : decode cX3_waits 12 = .ok (.iconst 1, 1) := by decide +kernel
theorem dX3_waits_13 : decode cX3_waits 13 = .ok (.isub, 1) := by decide +kernel
theorem dX3_waits_14 : decode cX3_waits 14 = .ok (.invokevirtual 69, 3) := by decide +kernel
theorem dX3_waits_17 : decode cX3_waits 17 = .ok (.ifCond .eq 12, 3) := by decide +kernel
theorem dX3_waits_20 : decode cX3_waits 20 = .ok (.aload_n 0, 1) := by decide +kernel
theorem dX3_waits_21 : decode cX3_waits 21 = .ok (.getfield 23, 3) := by decide +kernel
theorem dX3_waits_24 : decode cX3_waits 24 = .ok (.iload_n 1, 1) := by decide +kernel
theorem dX3_waits_25 : decode cX3_waits 25 = .ok (.iaload, 1) := by decide +kernel
theorem dX3_waits_26 : decode cX3_waits 26 = .ok (.goto 4, 3) := by decide +kernel
theorem dX3_waits_29 : decode cX3_waits 29 = .ok (.iconst (-1), 1) := by decide +kernel
theorem dX3_waits_30 : decode cX3_waits 30 = .ok (.ireturn, 1) := by decide +kernel
theorem dX3_trouble_0 : decode cX3_trouble 0 = .ok (.aload_n 0, 1) := by decide +kernel
theorem dX3_trouble_1 : decode cX3_trouble 1 = .ok (.iconst 0, 1) := by decide +kernel
theorem dX3_trouble_2 : decode cX3_trouble 2 = .ok (.putfield 47, 3) := by decide +kernel
theorem dX3_trouble_5 : decode cX3_trouble 5 = .ok (.aload_n 0, 1) := by decide +kernel
theorem dX3_trouble_6 : decode cX3_trouble 6 = .ok (.getfield 51, 3) := by decide +kernel
theorem dX3_trouble_9 : decode cX3_trouble 9 = .ok (.ireturn, 1) := by decide +kernel
