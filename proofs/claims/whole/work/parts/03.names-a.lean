theorem dX0_init_0 : decode cX0_init 0 = .ok (.aload_n 0, 1) := by decide +kernel
theorem dX0_init_1 : decode cX0_init 1 = .ok (.invokespecial 3, 3) := by decide +kernel
theorem dX0_init_4 : decode cX0_init 4 = .ok (.aload_n 0, 1) := by decide +kernel
theorem dX0_init_5 : decode cX0_init 5 = .ok (.sipush 256, 3) := by decide +kernel
theorem dX0_init_8 : decode cX0_init 8 = .ok (.newarray .int, 2) := by decide +kernel
theorem dX0_init_10 : decode cX0_init 10 = .ok (.putfield 9, 3) := by decide +kernel
theorem dX0_init_13 : decode cX0_init 13 = .ok (.aload_n 0, 1) := by decide +kernel
theorem dX0_init_14 : decode cX0_init 14 = .ok (.sipush 256, 3) := by decide +kernel
theorem dX0_init_17 : decode cX0_init 17 = .ok (.newarray .int, 2) := by decide +kernel
theorem dX0_init_19 : decode cX0_init 19 = .ok (.putfield 15, 3) := by decide +kernel
theorem dX0_init_22 : decode cX0_init 22 = .ok (.aload_n 0, 1) := by decide +kernel
theorem dX0_init_23 : decode cX0_init 23 = .ok (.sipush 256, 3) := by decide +kernel
theorem dX0_init_26 : decode cX0_init 26 = .ok (.newarray .int, 2) := by decide +kernel
theorem dX0_init_28 : decode cX0_init 28 = .ok (.putfield 18, 3) := by decide +kernel
theorem dX0_init_31 : decode cX0_init 31 = .ok (.aload_n 0, 1) := by decide +kernel
theorem dX0_init_32 : decode cX0_init 32 = .ok (.sipush 256, 3) := by decide +kernel
theorem dX0_init_35 : decode cX0_init 35 = .ok (.newarray .int, 2) := by decide +kernel
theorem dX0_init_37 : decode cX0_init 37 = .ok (.putfield 21, 3) := by decide +kernel
theorem dX0_init_40 : decode cX0_init 40 = .ok (.aload_n 0, 1) := by decide +kernel
theorem dX0_init_41 : decode cX0_init 41 = .ok (.getfield 9, 3) := by decide +kernel
theorem dX0_init_44 : decode cX0_init 44 = .ok (.iconst 0, 1) := by decide +kernel
theorem dX0_init_45 : decode cX0_init 45 = .ok (.iconst 4, 1) := by decide +kernel
theorem dX0_init_46 : decode cX0_init 46 = .ok (.iastore, 1) := by decide +kernel
theorem dX0_init_47 : decode cX0_init 47 = .ok (.return_, 1) := by decide +kernel
set_option maxRecDepth 20000 in
theorem ggX0_freeAll_J7_fill_53178 : GoodIn wsX0_freeAll wsJ7_fill_53178 := goodIn_r _ [6] (by decide +kernel) (by decide +kernel)
set_option maxRecDepth 20000 in
theorem gX0_freeAll_J7_fill_53178 : GoodIn wsX0_freeAll (va_wsS RX0 24 yJ7_fill_53178 wsJ7_fill_53178) := goodIn_app (goodIn_of _ (by decide +kernel)) ggX0_freeAll_J7_fill_53178
theorem dX0_freeAll_0 : decode cX0_freeAll 0 = .ok (.aload_n 0, 1) := by decide +kernel
theorem dX0_freeAll_1 : decode cX0_freeAll 1 = .ok (.getfield 9, 3) := by decide +kernel
theorem dX0_freeAll_4 : decode cX0_freeAll 4 = .ok (.iconst 0, 1) := by decide +kernel
theorem dX0_freeAll_5 : decode cX0_freeAll 5 = .ok (.invokestatic 24, 3) := by decide +kernel
theorem dX0_freeAll_8 : decode cX0_freeAll 8 = .ok (.aload_n 0, 1) := by decide +kernel
theorem dX0_freeAll_9 : decode cX0_freeAll 9 = .ok (.getfield 18, 3) := by decide +kernel
theorem dX0_freeAll_12 : decode cX0_freeAll 12 = .ok (.iconst 0, 1) := by decide +kernel
theorem dX0_freeAll_13 : decode cX0_freeAll 13 = .ok (.invokestatic 24, 3) := by decide +kernel
theorem dX0_freeAll_16 : decode cX0_freeAll 16 = .ok (.aload_n 0, 1) := by decide +kernel
theorem dX0_freeAll_17 : decode cX0_freeAll 17 = .ok (.getfield 9, 3) := by decide +kernel
theorem dX0_freeAll_20 : decode cX0_freeAll 20 = .ok (.iconst 0, 1) := by decide +kernel
theorem dX0_freeAll_21 : decode cX0_freeAll 21 = .ok (.iconst 4, 1) := by decide +kernel
theorem dX0_freeAll_22 : decode cX0_freeAll 22 = .ok (.iastore, 1) := by decide +kernel
theorem dX0_freeAll_23 : decode cX0_freeAll 23 = .ok (.return_, 1) := by decide +kernel
theorem dX0_kindOf_0 : decode cX0_kindOf 0 = .ok (.iload_n 1, 1) := by decide +kernel
theorem dX0_kindOf_1 : decode cX0_kindOf 1 = .ok (.ifCond .lt 19, 3) := by decide +kernel
theorem dX0_kindOf_4 : decode cX0_kindOf 4 = .ok (.iload_n 1, 1) := by decide +kernel
theorem dX0_kindOf_5 : decode cX0_kindOf 5 = .ok (.sipush 256, 3) := by decide +kernel
theorem dX0_kindOf_8 : decode cX0_kindOf 8 = .ok (.if_icmp .ge 12, 3) := by decide +kernel
theorem dX0_kindOf_11 : decode cX0_kindOf 11 = .ok (.aload_n 0, 1) := by decide +kernel
theorem dX0_kindOf_12 : decode cX0_kindOf 12 = .ok (.getfield 9, 3) := by decide +kernel
theorem dX0_kindOf_15 : decode cX0_kindOf 15 = .ok (.iload_n 1, 1) := by decide +kernel
theorem dX0_kindOf_16 : decode cX0_kindOf 16 = .ok (.iaload, 1) := by decide +kernel
theorem dX0_kindOf_17 : decode cX0_kindOf 17 = .ok (.goto 4, 3) := by decide +kernel
theorem dX0_kindOf_20 : decode cX0_kindOf 20 = .ok (.iconst (-1), 1) := by decide +kernel
theorem dX0_kindOf_21 : decode cX0_kindOf 21 = .ok (.ireturn, 1) := by decide +kernel
set_option maxRecDepth 20000 in
theorem ggX0_formOf_X2_isPage : GoodIn wsX0_formOf wsX2_isPage := goodIn_r _ [5] (by decide +kernel) (by decide +kernel)
set_option maxRecDepth 20000 in
theorem gX0_formOf_X2_isPage_n30 : GoodIn wsX0_formOf (wsX2_isPage) := ggX0_formOf_X2_isPage
set_option maxRecDepth 20000 in
theorem ggX0_formOf_X0_freeOrderAt : GoodIn wsX0_formOf wsX0_freeOrderAt := goodIn_r _ [10, 11, 12, 9, 13, 14, 4, 15, 16, 17, 18, 19, 20, 21, 22, 23, 24, 25, 26, 27, 1, 28, 29, 30, 31] (by decide +kernel) (by decide +kernel)
set_option maxRecDepth 20000 in
theorem gX0_formOf_X0_freeOrderAt : GoodIn wsX0_formOf (wsV RX0 34 RX0 yX0_freeOrderAt wsX0_freeOrderAt) := goodIn_app (goodIn_of _ (by decide +kernel)) ggX0_formOf_X0_freeOrderAt
theorem dX0_formOf_0 : decode cX0_formOf 0 = .ok (.iload_n 1, 1) := by decide +kernel
theorem dX0_formOf_1 : decode cX0_formOf 1 = .ok (.invokestatic 30, 3) := by decide +kernel
theorem dX0_formOf_4 : decode cX0_formOf 4 = .ok (.ifCond .eq 13, 3) := by decide +kernel
theorem dX0_formOf_7 : decode cX0_formOf 7 = .ok (.aload_n 0, 1) := by decide +kernel
theorem dX0_formOf_8 : decode cX0_formOf 8 = .ok (.getfield 9, 3) := by decide +kernel
theorem dX0_formOf_11 : decode cX0_formOf 11 = .ok (.iload_n 1, 1) := by decide +kernel
theorem dX0_formOf_12 : decode cX0_formOf 12 = .ok (.iaload, 1) := by decide +kernel
theorem dX0_formOf_13 : decode cX0_formOf 13 = .ok (.iconst 4, 1) := by decide +kernel
theorem dX0_formOf_14 : decode cX0_formOf 14 = .ok (.if_icmp .ne 5, 3) := by decide +kernel
theorem dX0_formOf_17 : decode cX0_formOf 17 = .ok (.iconst (-1), 1) := by decide +kernel
theorem dX0_formOf_18 : decode cX0_formOf 18 = .ok (.ireturn, 1) := by decide +kernel
theorem dX0_formOf_19 : decode cX0_formOf 19 = .ok (.aload_n 0, 1) := by decide +kernel
theorem dX0_formOf_20 : decode cX0_formOf 20 = .ok (.getfield 9, 3) := by decide +kernel
theorem dX0_formOf_23 : decode cX0_formOf 23 = .ok (.iload_n 1, 1) := by decide +kernel
theorem dX0_formOf_24 : decode cX0_formOf 24 = .ok (.iaload, 1) := by decide +kernel
theorem dX0_formOf_25 : decode cX0_formOf 25 = .ok (.ifCond .ne 11, 3) := by decide +kernel
theorem dX0_formOf_28 : decode cX0_formOf 28 = .ok (.aload_n 0, 1) := by decide +kernel
theorem dX0_formOf_29 : decode cX0_formOf 29 = .ok (.iload_n 1, 1) := by decide +kernel
theorem dX0_formOf_30 : decode cX0_formOf 30 = .ok (.invokevirtual 34, 3) := by decide +kernel
theorem dX0_formOf_33 : decode cX0_formOf 33 = .ok (.goto 9, 3) := by decide +kernel
theorem dX0_formOf_36 : decode cX0_formOf 36 = .ok (.aload_n 0, 1) := by decide +kernel
theorem dX0_formOf_37 : decode cX0_formOf 37 = .ok (.getfield 15, 3) := by decide +kernel
theorem dX0_formOf_40 : decode cX0_formOf 40 = .ok (.iload_n 1, 1) := by decide +kernel
theorem dX0_formOf_41 : decode cX0_formOf 41 = .ok (.iaload, 1) := by decide +kernel
theorem dX0_formOf_42 : decode cX0_formOf 42 = .ok (.ireturn, 1) := by decide +kernel
set_option maxRecDepth 20000 in
theorem ggX0_firstOf_X0_kindOf : GoodIn wsX0_firstOf wsX0_kindOf := goodIn_r _ [5, 6, 32, 33, 34, 35] (by decide +kernel) (by decide +kernel)
set_option maxRecDepth 20000 in
theorem gX0_firstOf_X0_kindOf : GoodIn wsX0_firstOf (wsV RX0 38 RX0 yX0_kindOf wsX0_kindOf) := goodIn_app (goodIn_of _ (by decide +kernel)) ggX0_firstOf_X0_kindOf
set_option maxRecDepth 20000 in
theorem ggX0_firstOf_X0_formOf : GoodIn wsX0_firstOf wsX0_formOf := goodIn_r _ [10, 6, 11, 12, 13, 14, 15, 16, 17, 4, 18, 19, 20, 21, 22, 23, 24, 25, 26, 27, 28, 29, 30, 31, 1, 2, 3, 5, 32, 33, 34, 35] (by decide +kernel) (by decide +kernel)
set_option maxRecDepth 20000 in
theorem gX0_firstOf_X0_formOf : GoodIn wsX0_firstOf (wsV RX0 41 RX0 yX0_formOf wsX0_formOf) := goodIn_app (goodIn_of _ (by decide +kernel)) ggX0_firstOf_X0_formOf
set_option maxRecDepth 20000 in
theorem ggX0_firstOf_X0_alignedTo : GoodIn wsX0_firstOf wsX0_alignedTo := goodIn_r _ [21, 22, 13, 23] (by decide +kernel) (by decide +kernel)
set_option maxRecDepth 20000 in
theorem gX0_firstOf_X0_alignedTo : GoodIn wsX0_firstOf (va_wsS RX0 44 yX0_alignedTo wsX0_alignedTo) := goodIn_app (goodIn_of _ (by decide +kernel)) ggX0_firstOf_X0_alignedTo
theorem dX0_firstOf_0 : decode cX0_firstOf 0 = .ok (.aload_n 0, 1) := by decide +kernel
theorem dX0_firstOf_1 : decode cX0_firstOf 1 = .ok (.iload_n 1, 1) := by decide +kernel
theorem dX0_firstOf_2 : decode cX0_firstOf 2 = .ok (.invokevirtual 38, 3) := by decide +kernel
theorem dX0_firstOf_5 : decode cX0_firstOf 5 = .ok (.istore_n 2, 1) := by decide +kernel
theorem dX0_firstOf_6 : decode cX0_firstOf 6 = .ok (.iload_n 2, 1) := by decide +kernel
theorem dX0_firstOf_7 : decode cX0_firstOf 7 = .ok (.iconst 1, 1) := by decide +kernel
theorem dX0_firstOf_8 : decode cX0_firstOf 8 = .ok (.if_icmp .eq 8, 3) := by decide +kernel
theorem dX0_firstOf_11 : decode cX0_firstOf 11 = .ok (.iload_n 2, 1) := by decide +kernel
theorem dX0_firstOf_12 : decode cX0_firstOf 12 = .ok (.iconst 4, 1) := by decide +kernel
theorem dX0_firstOf_13 : decode cX0_firstOf 13 = .ok (.if_icmp .ne 7, 3) := by decide +kernel
theorem dX0_firstOf_16 : decode cX0_firstOf 16 = .ok (.iconst 1, 1) := by decide +kernel
theorem dX0_firstOf_17 : decode cX0_firstOf 17 = .ok (.goto 4, 3) := by decide +kernel
theorem dX0_firstOf_20 : decode cX0_firstOf 20 = .ok (.iconst 0, 1) := by decide +kernel
theorem dX0_firstOf_21 : decode cX0_firstOf 21 = .ok (.istore_n 3, 1) := by decide +kernel
theorem dX0_firstOf_22 : decode cX0_firstOf 22 = .ok (.iload_n 3, 1) := by decide +kernel
theorem dX0_firstOf_23 : decode cX0_firstOf 23 = .ok (.ifCond .eq 7, 3) := by decide +kernel
theorem dX0_firstOf_26 : decode cX0_firstOf 26 = .ok (.iload_n 1, 1) := by decide +kernel
theorem dX0_firstOf_27 : decode cX0_firstOf 27 = .ok (.goto 12, 3) := by decide +kernel
theorem dX0_firstOf_30 : decode cX0_firstOf 30 = .ok (.iload_n 1, 1) := by decide +kernel
theorem dX0_firstOf_31 : decode cX0_firstOf 31 = .ok (.aload_n 0, 1) := by decide +kernel
theorem dX0_firstOf_32 : decode cX0_firstOf 32 = .ok (.iload_n 1, 1) := by decide +kernel
theorem dX0_firstOf_33 : decode cX0_firstOf 33 = .ok (.invokevirtual 41, 3) := by decide +kernel
theorem dX0_firstOf_36 : decode cX0_firstOf 36 = .ok (.invokestatic 44, 3) := by decide +kernel
theorem dX0_firstOf_39 : decode cX0_firstOf 39 = .ok (.ireturn, 1) := by decide +kernel
set_option maxRecDepth 20000 in
theorem ggX0_blocksOn_X2_isPage : GoodIn wsX0_blocksOn wsX2_isPage := goodIn_r _ [4] (by decide +kernel) (by decide +kernel)
set_option maxRecDepth 20000 in
theorem gX0_blocksOn_X2_isPage_n30 : GoodIn wsX0_blocksOn (wsX2_isPage) := ggX0_blocksOn_X2_isPage
set_option maxRecDepth 20000 in
theorem ggX0_blocksOn_J6_bitCount_0f7a4 : GoodIn wsX0_blocksOn wsJ6_bitCount_0f7a4 := goodIn_r _ [8, 9, 10, 11] (by decide +kernel) (by decide +kernel)
set_option maxRecDepth 20000 in
theorem gX0_blocksOn_J6_bitCount_0f7a4 : GoodIn wsX0_blocksOn (va_wsS RX0 48 yJ6_bitCount_0f7a4 wsJ6_bitCount_0f7a4) := goodIn_app (goodIn_of _ (by decide +kernel)) ggX0_blocksOn_J6_bitCount_0f7a4
theorem dX0_blocksOn_0 : decode cX0_blocksOn 0 = .ok (.iload_n 1, 1) := by decide +kernel
theorem dX0_blocksOn_1 : decode cX0_blocksOn 1 = .ok (.invokestatic 30, 3) := by decide +kernel
theorem dX0_blocksOn_4 : decode cX0_blocksOn 4 = .ok (.ifCond .eq 15, 3) := by decide +kernel
theorem dX0_blocksOn_7 : decode cX0_blocksOn 7 = .ok (.aload_n 0, 1) := by decide +kernel
theorem dX0_blocksOn_8 : decode cX0_blocksOn 8 = .ok (.getfield 18, 3) := by decide +kernel
theorem dX0_blocksOn_11 : decode cX0_blocksOn 11 = .ok (.iload_n 1, 1) := by decide +kernel
theorem dX0_blocksOn_12 : decode cX0_blocksOn 12 = .ok (.iaload, 1) := by decide +kernel
theorem dX0_blocksOn_13 : decode cX0_blocksOn 13 = .ok (.invokestatic 48, 3) := by decide +kernel
theorem dX0_blocksOn_16 : decode cX0_blocksOn 16 = .ok (.goto 4, 3) := by decide +kernel
theorem dX0_blocksOn_19 : decode cX0_blocksOn 19 = .ok (.iconst 0, 1) := by decide +kernel
theorem dX0_blocksOn_20 : decode cX0_blocksOn 20 = .ok (.ireturn, 1) := by decide +kernel
set_option maxRecDepth 20000 in
theorem ggX0_slotsOf_X0_stepOf : GoodIn wsX0_slotsOf wsX0_stepOf := goodIn_r _ [5, 6, 7, 8, 9, 10, 11] (by decide +kernel) (by decide +kernel)
set_option maxRecDepth 20000 in
theorem gX0_slotsOf_X0_stepOf : GoodIn wsX0_slotsOf (wsV RX0 53 RX0 yX0_stepOf wsX0_stepOf) := goodIn_app (goodIn_of _ (by decide +kernel)) ggX0_slotsOf_X0_stepOf
theorem dX0_slotsOf_0 : decode cX0_slotsOf 0 = .ok (.aload_n 0, 1) := by decide +kernel
theorem dX0_slotsOf_1 : decode cX0_slotsOf 1 = .ok (.iload_n 1, 1) := by decide +kernel
theorem dX0_slotsOf_2 : decode cX0_slotsOf 2 = .ok (.invokevirtual 53, 3) := by decide +kernel
theorem dX0_slotsOf_5 : decode cX0_slotsOf 5 = .ok (.istore_n 2, 1) := by decide +kernel
theorem dX0_slotsOf_6 : decode cX0_slotsOf 6 = .ok (.iload_n 2, 1) := by decide +kernel
theorem dX0_slotsOf_7 : decode cX0_slotsOf 7 = .ok (.ifCond .le 10, 3) := by decide +kernel
theorem dX0_slotsOf_10 : decode cX0_slotsOf 10 = .ok (.bipush 16, 2) := by decide +kernel
theorem dX0_slotsOf_12 : decode cX0_slotsOf 12 = .ok (.iload_n 2, 1) := by decide +kernel
theorem dX0_slotsOf_13 : decode cX0_slotsOf 13 = .ok (.idiv, 1) := by decide +kernel
theorem dX0_slotsOf_14 : decode cX0_slotsOf 14 = .ok (.goto 4, 3) := by decide +kernel
theorem dX0_slotsOf_17 : decode cX0_slotsOf 17 = .ok (.iconst 0, 1) := by decide +kernel
theorem dX0_slotsOf_18 : decode cX0_slotsOf 18 = .ok (.ireturn, 1) := by decide +kernel
set_option maxRecDepth 20000 in
theorem ggX0_blockIn_X0_isTaken : GoodIn wsX0_blockIn wsX0_isTaken := goodIn_r _ [5, 6, 13, 14, 15, 16] (by decide +kernel) (by decide +kernel)
set_option maxRecDepth 20000 in
theorem gX0_blockIn_X0_isTaken : GoodIn wsX0_blockIn (wsV RX0 56 RX0 yX0_isTaken wsX0_isTaken) := goodIn_app (goodIn_of _ (by decide +kernel)) ggX0_blockIn_X0_isTaken
set_option maxRecDepth 20000 in
theorem ggX0_blockIn_X0_stepOf : GoodIn wsX0_blockIn wsX0_stepOf := goodIn_r _ [10, 11, 12, 13, 14, 15, 16] (by decide +kernel) (by decide +kernel)
set_option maxRecDepth 20000 in
theorem gX0_blockIn_X0_stepOf : GoodIn wsX0_blockIn (wsV RX0 53 RX0 yX0_stepOf wsX0_stepOf) := goodIn_app (goodIn_of _ (by decide +kernel)) ggX0_blockIn_X0_stepOf
theorem dX0_blockIn_0 : decode cX0_blockIn 0 = .ok (.aload_n 0, 1) := by decide +kernel
theorem dX0_blockIn_1 : decode cX0_blockIn 1 = .ok (.iload_n 1, 1) := by decide +kernel
theorem dX0_blockIn_2 : decode cX0_blockIn 2 = .ok (.iload_n 2, 1) := by decide +kernel
theorem dX0_blockIn_3 : decode cX0_blockIn 3 = .ok (.invokevirtual 56, 3) := by decide +kernel
theorem dX0_blockIn_6 : decode cX0_blockIn 6 = .ok (.ifCond .eq 18, 3) := by decide +kernel
theorem dX0_blockIn_9 : decode cX0_blockIn 9 = .ok (.iload_n 1, 1) := by decide +kernel
theorem dX0_blockIn_10 : decode cX0_blockIn 10 = .ok (.bipush 16, 2) := by decide +kernel
theorem dX0_blockIn_12 : decode cX0_blockIn 12 = .ok (.imul, 1) := by decide +kernel
theorem dX0_blockIn_13 : decode cX0_blockIn 13 = .ok (.iload_n 2, 1) := by decide +kernel
theorem dX0_blockIn_14 : decode cX0_blockIn 14 = .ok (.aload_n 0, 1) := by decide +kernel
theorem dX0_blockIn_15 : decode cX0_blockIn 15 = .ok (.iload_n 1, 1) := by decide +kernel
theorem dX0_blockIn_16 : decode cX0_blockIn 16 = .ok (.invokevirtual 53, 3) := by decide +kernel
theorem dX0_blockIn_19 : decode cX0_blockIn 19 = .ok (.imul, 1) := by decide +kernel
theorem dX0_blockIn_20 : decode cX0_blockIn 20 = .ok (.iadd, 1) := by decide +kernel
theorem dX0_blockIn_21 : decode cX0_blockIn 21 = .ok (.goto 4, 3) := by decide +kernel
theorem dX0_blockIn_24 : decode cX0_blockIn 24 = .ok (.iconst (-1), 1) := by decide +kernel
theorem dX0_blockIn_25 : decode cX0_blockIn 25 = .ok (.ireturn, 1) := by decide +kernel
set_option maxRecDepth 20000 in
theorem ggX0_isLive_X0_pageOf : GoodIn wsX0_isLive wsX0_pageOf := goodIn_r _ [4] (by decide +kernel) (by decide +kernel)
set_option maxRecDepth 20000 in
theorem gX0_isLive_X0_pageOf : GoodIn wsX0_isLive (va_wsS RX0 60 yX0_pageOf wsX0_pageOf) := goodIn_app (goodIn_of _ (by decide +kernel)) ggX0_isLive_X0_pageOf
set_option maxRecDepth 20000 in
theorem ggX0_isLive_X0_slotAt : GoodIn wsX0_isLive wsX0_slotAt := goodIn_r _ [8, 1, 2, 3, 4, 9, 10, 11, 12, 13, 14, 15, 16, 17, 23, 24, 25, 26] (by decide +kernel) (by decide +kernel)
set_option maxRecDepth 20000 in
theorem gX0_isLive_X0_slotAt : GoodIn wsX0_isLive (wsV RX0 63 RX0 yX0_slotAt wsX0_slotAt) := goodIn_app (goodIn_of _ (by decide +kernel)) ggX0_isLive_X0_slotAt
set_option maxRecDepth 20000 in
theorem ggX0_isLive_X0_isTaken : GoodIn wsX0_isLive wsX0_isTaken := goodIn_r _ [21, 22, 23, 24, 25, 26] (by decide +kernel) (by decide +kernel)
set_option maxRecDepth 20000 in
theorem gX0_isLive_X0_isTaken : GoodIn wsX0_isLive (wsV RX0 56 RX0 yX0_isTaken wsX0_isTaken) := goodIn_app (goodIn_of _ (by decide +kernel)) ggX0_isLive_X0_isTaken
theorem dX0_isLive_0 : decode cX0_isLive 0 = .ok (.aload_n 0, 1) := by decide +kernel
theorem dX0_isLive_1 : decode cX0_isLive 1 = .ok (.iload_n 1, 1) := by decide +kernel
theorem dX0_isLive_2 : decode cX0_isLive 2 = .ok (.invokestatic 60, 3) := by decide +kernel
theorem dX0_isLive_5 : decode cX0_isLive 5 = .ok (.aload_n 0, 1) := by decide +kernel
theorem dX0_isLive_6 : decode cX0_isLive 6 = .ok (.iload_n 1, 1) := by decide +kernel
theorem dX0_isLive_7 : decode cX0_isLive 7 = .ok (.invokevirtual 63, 3) := by decide +kernel
theorem dX0_isLive_10 : decode cX0_isLive 10 = .ok (.invokevirtual 56, 3) := by decide +kernel
theorem dX0_isLive_13 : decode cX0_isLive 13 = .ok (.ireturn, 1) := by decide +kernel
set_option maxRecDepth 20000 in
theorem ggX0_blockOver_X0_pageOf : GoodIn wsX0_blockOver wsX0_pageOf := goodIn_r _ [6] (by decide +kernel) (by decide +kernel)
set_option maxRecDepth 20000 in
theorem gX0_blockOver_X0_pageOf : GoodIn wsX0_blockOver (va_wsS RX0 60 yX0_pageOf wsX0_pageOf) := goodIn_app (goodIn_of _ (by decide +kernel)) ggX0_blockOver_X0_pageOf
set_option maxRecDepth 20000 in
theorem ggX0_blockOver_X2_isPage : GoodIn wsX0_blockOver wsX2_isPage := goodIn_r _ [9] (by decide +kernel) (by decide +kernel)
set_option maxRecDepth 20000 in
theorem gX0_blockOver_X2_isPage_n30 : GoodIn wsX0_blockOver (wsX2_isPage) := ggX0_blockOver_X2_isPage
set_option maxRecDepth 20000 in
theorem ggX0_blockOver_X0_alignedTo : GoodIn wsX0_blockOver wsX0_alignedTo := goodIn_r _ [12, 13, 8, 14] (by decide +kernel) (by decide +kernel)
set_option maxRecDepth 20000 in
theorem gX0_blockOver_X0_alignedTo : GoodIn wsX0_blockOver (va_wsS RX0 44 yX0_alignedTo wsX0_alignedTo) := goodIn_app (goodIn_of _ (by decide +kernel)) ggX0_blockOver_X0_alignedTo
set_option maxRecDepth 20000 in
theorem ggX0_blockOver_X0_blockIn : GoodIn wsX0_blockOver wsX0_blockIn := goodIn_r _ [18, 19, 20, 21, 5, 22, 23, 24, 25, 26, 27, 1, 2, 28, 29, 30, 31] (by decide +kernel) (by decide +kernel)
set_option maxRecDepth 20000 in
theorem gX0_blockOver_X0_blockIn : GoodIn wsX0_blockOver (wsV RX0 66 RX0 yX0_blockIn wsX0_blockIn) := goodIn_app (goodIn_of _ (by decide +kernel)) ggX0_blockOver_X0_blockIn
set_option maxRecDepth 20000 in
theorem ggX0_blockOver_X0_stepOf : GoodIn wsX0_blockOver wsX0_stepOf := goodIn_r _ [27, 1, 2, 28, 29, 30, 31] (by decide +kernel) (by decide +kernel)
set_option maxRecDepth 20000 in
theorem gX0_blockOver_X0_stepOf : GoodIn wsX0_blockOver (wsV RX0 53 RX0 yX0_stepOf wsX0_stepOf) := goodIn_app (goodIn_of _ (by decide +kernel)) ggX0_blockOver_X0_stepOf
theorem dX0_blockOver_0 : decode cX0_blockOver 0 = .ok (.iload_n 1, 1) := by decide +kernel
theorem dX0_blockOver_1 : decode cX0_blockOver 1 = .ok (.invokestatic 60, 3) := by decide +kernel
theorem dX0_blockOver_4 : decode cX0_blockOver 4 = .ok (.istore_n 2, 1) := by decide +kernel
theorem dX0_blockOver_5 : decode cX0_blockOver 5 = .ok (.iload_n 2, 1) := by decide +kernel
theorem dX0_blockOver_6 : decode cX0_blockOver 6 = .ok (.invokestatic 30, 3) := by decide +kernel
theorem dX0_blockOver_9 : decode cX0_blockOver 9 = .ok (.ifCond .eq 29, 3) := by decide +kernel
theorem dX0_blockOver_12 : decode cX0_blockOver 12 = .ok (.aload_n 0, 1) := by decide +kernel
theorem dX0_blockOver_13 : decode cX0_blockOver 13 = .ok (.getfield 9, 3) := by decide +kernel
theorem dX0_blockOver_16 : decode cX0_blockOver 16 = .ok (.iload_n 2, 1) := by decide +kernel
theorem dX0_blockOver_17 : decode cX0_blockOver 17 = .ok (.iaload, 1) := by decide +kernel
theorem dX0_blockOver_18 : decode cX0_blockOver 18 = .ok (.iconst 3, 1) := by decide +kernel
theorem dX0_blockOver_19 : decode cX0_blockOver 19 = .ok (.if_icmp .ne 19, 3) := by decide +kernel
theorem dX0_blockOver_22 : decode cX0_blockOver 22 = .ok (.aload_n 0, 1) := by decide +kernel
theorem dX0_blockOver_23 : decode cX0_blockOver 23 = .ok (.iload_n 2, 1) := by decide +kernel
theorem dX0_blockOver_24 : decode cX0_blockOver 24 = .ok (.aload_n 0, 1) := by decide +kernel
theorem dX0_blockOver_25 : decode cX0_blockOver 25 = .ok (.getfield 15, 3) := by decide +kernel
theorem dX0_blockOver_28 : decode cX0_blockOver 28 = .ok (.iload_n 2, 1) := by decide +kernel
theorem dX0_blockOver_29 : decode cX0_blockOver 29 = .ok (.iaload, 1) := by decide +kernel
theorem dX0_blockOver_30 : decode cX0_blockOver 30 = .ok (.invokestatic 44, 3) := by decide +kernel
theorem dX0_blockOver_33 : decode cX0_blockOver 33 = .ok (.iconst 0, 1) := by decide +kernel
theorem dX0_blockOver_34 : decode cX0_blockOver 34 = .ok (.invokevirtual 66, 3) := by decide +kernel
theorem dX0_blockOver_37 : decode cX0_blockOver 37 = .ok (.ireturn, 1) := by decide +kernel
theorem dX0_blockOver_38 : decode cX0_blockOver 38 = .ok (.aload_n 0, 1) := by decide +kernel
theorem dX0_blockOver_39 : decode cX0_blockOver 39 = .ok (.iload_n 2, 1) := by decide +kernel
theorem dX0_blockOver_40 : decode cX0_blockOver 40 = .ok (.invokevirtual 53, 3) := by decide +kernel
theorem dX0_blockOver_43 : decode cX0_blockOver 43 = .ok (.istore_n 3, 1) := by decide +kernel
theorem dX0_blockOver_44 : decode cX0_blockOver 44 = .ok (.iload_n 3, 1) := by decide +kernel
theorem dX0_blockOver_45 : decode cX0_blockOver 45 = .ok (.ifCond .le 17, 3) := by decide +kernel
theorem dX0_blockOver_48 : decode cX0_blockOver 48 = .ok (.aload_n 0, 1) := by decide +kernel
theorem dX0_blockOver_49 : decode cX0_blockOver 49 = .ok (.iload_n 2, 1) := by decide +kernel
theorem dX0_blockOver_50 : decode cX0_blockOver 50 = .ok (.iload_n 1, 1) := by decide +kernel
theorem dX0_blockOver_51 : decode cX0_blockOver 51 = .ok (.bipush 16, 2) := by decide +kernel
theorem dX0_blockOver_53 : decode cX0_blockOver 53 = .ok (.irem, 1) := by decide +kernel
theorem dX0_blockOver_54 : decode cX0_blockOver 54 = .ok (.iload_n 3, 1) := by decide +kernel
theorem dX0_blockOver_55 : decode cX0_blockOver 55 = .ok (.idiv, 1) := by decide +kernel
theorem dX0_blockOver_56 : decode cX0_blockOver 56 = .ok (.invokevirtual 66, 3) := by decide +kernel
theorem dX0_blockOver_59 : decode cX0_blockOver 59 = .ok (.goto 4, 3) := by decide +kernel
theorem dX0_blockOver_62 : decode cX0_blockOver 62 = .ok (.iconst (-1), 1) := by decide +kernel
theorem dX0_blockOver_63 : decode cX0_blockOver 63 = .ok (.ireturn, 1) := by decide +kernel
set_option maxRecDepth 20000 in
theorem ggX0_placeFor_X2_classFor : GoodIn wsX0_placeFor wsX2_classFor := goodIn_r _ [3, 4] (by decide +kernel) (by decide +kernel)
set_option maxRecDepth 20000 in
theorem gX0_placeFor_X2_classFor_n69 : GoodIn wsX0_placeFor (wsX2_classFor) := ggX0_placeFor_X2_classFor
set_option maxRecDepth 20000 in
theorem ggX0_placeFor_X0_emptySlot : GoodIn wsX0_placeFor wsX0_emptySlot := goodIn_r _ [9, 10, 11, 12, 8, 13, 14, 15, 16, 2, 17, 18, 19, 20, 21, 22, 23, 24, 25, 26, 27, 28, 29, 30, 55, 56, 57, 58] (by decide +kernel) (by decide +kernel)
set_option maxRecDepth 20000 in
theorem gX0_placeFor_X0_emptySlot : GoodIn wsX0_placeFor (wsV RX0 72 RX0 yX0_emptySlot wsX0_emptySlot) := goodIn_app (goodIn_of _ (by decide +kernel)) ggX0_placeFor_X0_emptySlot
set_option maxRecDepth 20000 in
theorem ggX0_placeFor_X2_orderFor : GoodIn wsX0_placeFor wsX2_orderFor := goodIn_r _ [32, 33, 1, 2, 3, 4] (by decide +kernel) (by decide +kernel)
set_option maxRecDepth 20000 in
theorem gX0_placeFor_X2_orderFor_n75 : GoodIn wsX0_placeFor (wsX2_orderFor) := ggX0_placeFor_X2_orderFor
set_option maxRecDepth 20000 in
theorem ggX0_placeFor_X0_extentFor : GoodIn wsX0_placeFor wsX0_extentFor := goodIn_r _ [37, 38, 2, 39, 40, 41, 42, 8, 43, 44, 45, 46, 47, 48, 49, 50, 51, 14, 52, 53, 54, 55, 56, 57, 58] (by decide +kernel) (by decide +kernel)
set_option maxRecDepth 20000 in
theorem gX0_placeFor_X0_extentFor : GoodIn wsX0_placeFor (wsV RX0 78 RX0 yX0_extentFor wsX0_extentFor) := goodIn_app (goodIn_of _ (by decide +kernel)) ggX0_placeFor_X0_extentFor
theorem dX0_placeFor_0 : decode cX0_placeFor 0 = .ok (.iload_n 1, 1) := by decide +kernel
theorem dX0_placeFor_1 : decode cX0_placeFor 1 = .ok (.invokestatic 69, 3) := by decide +kernel
theorem dX0_placeFor_4 : decode cX0_placeFor 4 = .ok (.istore_n 2, 1) := by decide +kernel
theorem dX0_placeFor_5 : decode cX0_placeFor 5 = .ok (.iload_n 2, 1) := by decide +kernel
theorem dX0_placeFor_6 : decode cX0_placeFor 6 = .ok (.ifCond .le 11, 3) := by decide +kernel
theorem dX0_placeFor_9 : decode cX0_placeFor 9 = .ok (.aload_n 0, 1) := by decide +kernel
theorem dX0_placeFor_10 : decode cX0_placeFor 10 = .ok (.iload_n 2, 1) := by decide +kernel
theorem dX0_placeFor_11 : decode cX0_placeFor 11 = .ok (.invokevirtual 72, 3) := by decide +kernel
theorem dX0_placeFor_14 : decode cX0_placeFor 14 = .ok (.goto 4, 3) := by decide +kernel
theorem dX0_placeFor_17 : decode cX0_placeFor 17 = .ok (.iconst (-1), 1) := by decide +kernel
theorem dX0_placeFor_18 : decode cX0_placeFor 18 = .ok (.istore_n 3, 1) := by decide +kernel
theorem dX0_placeFor_19 : decode cX0_placeFor 19 = .ok (.iload_n 3, 1) := by decide +kernel
theorem dX0_placeFor_20 : decode cX0_placeFor 20 = .ok (.iconst (-1), 1) := by decide +kernel
theorem dX0_placeFor_21 : decode cX0_placeFor 21 = .ok (.if_icmp .eq 5, 3) := by decide +kernel
theorem dX0_placeFor_24 : decode cX0_placeFor 24 = .ok (.iload_n 3, 1) := by decide +kernel
theorem dX0_placeFor_25 : decode cX0_placeFor 25 = .ok (.ireturn, 1) := by decide +kernel
theorem dX0_placeFor_26 : decode cX0_placeFor 26 = .ok (.aload_n 0, 1) := by decide +kernel
theorem dX0_placeFor_27 : decode cX0_placeFor 27 = .ok (.iload_n 2, 1) := by decide +kernel
theorem dX0_placeFor_28 : decode cX0_placeFor 28 = .ok (.ifCond .le 7, 3) := by decide +kernel
theorem dX0_placeFor_31 : decode cX0_placeFor 31 = .ok (.iconst 0, 1) := by decide +kernel
theorem dX0_placeFor_32 : decode cX0_placeFor 32 = .ok (.goto 7, 3) := by decide +kernel
theorem dX0_placeFor_35 : decode cX0_placeFor 35 = .ok (.iload_n 1, 1) := by decide +kernel
theorem dX0_placeFor_36 : decode cX0_placeFor 36 = .ok (.invokestatic 75, 3) := by decide +kernel
theorem dX0_placeFor_39 : decode cX0_placeFor 39 = .ok (.invokevirtual 78, 3) := by decide +kernel
theorem dX0_placeFor_42 : decode cX0_placeFor 42 = .ok (.istore 4, 2) := by decide +kernel
theorem dX0_placeFor_44 : decode cX0_placeFor 44 = .ok (.iload 4, 2) := by decide +kernel
theorem dX0_placeFor_46 : decode cX0_placeFor 46 = .ok (.iconst (-1), 1) := by decide +kernel
theorem dX0_placeFor_47 : decode cX0_placeFor 47 = .ok (.if_icmp .ne 7, 3) := by decide +kernel
theorem dX0_placeFor_50 : decode cX0_placeFor 50 = .ok (.iconst (-1), 1) := by decide +kernel
theorem dX0_placeFor_51 : decode cX0_placeFor 51 = .ok (.goto 8, 3) := by decide +kernel
theorem dX0_placeFor_54 : decode cX0_placeFor 54 = .ok (.iload 4, 2) := by decide +kernel
theorem dX0_placeFor_56 : decode cX0_placeFor 56 = .ok (.bipush 16, 2) := by decide +kernel
theorem dX0_placeFor_58 : decode cX0_placeFor 58 = .ok (.imul, 1) := by decide +kernel
theorem dX0_placeFor_59 : decode cX0_placeFor 59 = .ok (.ireturn, 1) := by decide +kernel
set_option maxRecDepth 20000 in
theorem ggX0_canHold_X0_pageOf : GoodIn wsX0_canHold wsX0_pageOf := goodIn_r _ [4] (by decide +kernel) (by decide +kernel)
set_option maxRecDepth 20000 in
theorem gX0_canHold_X0_pageOf : GoodIn wsX0_canHold (va_wsS RX0 60 yX0_pageOf wsX0_pageOf) := goodIn_app (goodIn_of _ (by decide +kernel)) ggX0_canHold_X0_pageOf
set_option maxRecDepth 20000 in
theorem ggX0_canHold_X2_classFor : GoodIn wsX0_canHold wsX2_classFor := goodIn_r _ [7, 8] (by decide +kernel) (by decide +kernel)
set_option maxRecDepth 20000 in
theorem gX0_canHold_X2_classFor_n69 : GoodIn wsX0_canHold (wsX2_classFor) := ggX0_canHold_X2_classFor
set_option maxRecDepth 20000 in
theorem ggX0_canHold_X0_slotBy : GoodIn wsX0_canHold wsX0_slotBy := goodIn_r _ [11] (by decide +kernel) (by decide +kernel)
set_option maxRecDepth 20000 in
theorem gX0_canHold_X0_slotBy : GoodIn wsX0_canHold (va_wsS RX0 81 yX0_slotBy wsX0_slotBy) := goodIn_app (goodIn_of _ (by decide +kernel)) ggX0_canHold_X0_slotBy
set_option maxRecDepth 20000 in
theorem ggX0_canHold_X0_kindOf : GoodIn wsX0_canHold wsX0_kindOf := goodIn_r _ [15, 16, 36, 37, 38, 39] (by decide +kernel) (by decide +kernel)
set_option maxRecDepth 20000 in
theorem gX0_canHold_X0_kindOf : GoodIn wsX0_canHold (wsV RX0 38 RX0 yX0_kindOf wsX0_kindOf) := goodIn_app (goodIn_of _ (by decide +kernel)) ggX0_canHold_X0_kindOf
set_option maxRecDepth 20000 in
theorem ggX0_canHold_X0_isSlabOf : GoodIn wsX0_canHold wsX0_isSlabOf := goodIn_r _ [20, 16, 21, 22, 6, 23, 36, 37, 38, 39] (by decide +kernel) (by decide +kernel)
set_option maxRecDepth 20000 in
theorem gX0_canHold_X0_isSlabOf : GoodIn wsX0_canHold (wsV RX0 84 RX0 yX0_isSlabOf wsX0_isSlabOf) := goodIn_app (goodIn_of _ (by decide +kernel)) ggX0_canHold_X0_isSlabOf
set_option maxRecDepth 20000 in
theorem ggX0_canHold_X2_orderFor : GoodIn wsX0_canHold wsX2_orderFor := goodIn_r _ [25, 26, 5, 6, 7, 8] (by decide +kernel) (by decide +kernel)
set_option maxRecDepth 20000 in
theorem gX0_canHold_X2_orderFor_n75 : GoodIn wsX0_canHold (wsX2_orderFor) := ggX0_canHold_X2_orderFor
set_option maxRecDepth 20000 in
theorem ggX0_canHold_X0_alignedTo : GoodIn wsX0_canHold wsX0_alignedTo := goodIn_r _ [29, 30, 6, 31] (by decide +kernel) (by decide +kernel)
set_option maxRecDepth 20000 in
theorem gX0_canHold_X0_alignedTo : GoodIn wsX0_canHold (va_wsS RX0 44 yX0_alignedTo wsX0_alignedTo) := goodIn_app (goodIn_of _ (by decide +kernel)) ggX0_canHold_X0_alignedTo
set_option maxRecDepth 20000 in
theorem ggX0_canHold_X0_isFreeRun : GoodIn wsX0_canHold wsX0_isFreeRun := goodIn_r _ [35, 30, 6, 31, 12, 13, 14, 3, 15, 16, 36, 37, 38, 39] (by decide +kernel) (by decide +kernel)
set_option maxRecDepth 20000 in
theorem gX0_canHold_X0_isFreeRun : GoodIn wsX0_canHold (wsV RX0 87 RX0 yX0_isFreeRun wsX0_isFreeRun) := goodIn_app (goodIn_of _ (by decide +kernel)) ggX0_canHold_X0_isFreeRun
theorem dX0_canHold_0 : decode cX0_canHold 0 = .ok (.iload_n 1, 1) := by decide +kernel
theorem dX0_canHold_1 : decode cX0_canHold 1 = .ok (.invokestatic 60, 3) := by decide +kernel
theorem dX0_canHold_4 : decode cX0_canHold 4 = .ok (.istore_n 3, 1) := by decide +kernel
theorem dX0_canHold_5 : decode cX0_canHold 5 = .ok (.iload_n 2, 1) := by decide +kernel
theorem dX0_canHold_6 : decode cX0_canHold 6 = .ok (.invokestatic 69, 3) := by decide +kernel
theorem dX0_canHold_9 : decode cX0_canHold 9 = .ok (.istore 4, 2) := by decide +kernel
theorem dX0_canHold_11 : decode cX0_canHold 11 = .ok (.iload 4, 2) := by decide +kernel
theorem dX0_canHold_13 : decode cX0_canHold 13 = .ok (.ifCond .le 52, 3) := by decide +kernel
theorem dX0_canHold_16 : decode cX0_canHold 16 = .ok (.iload 4, 2) := by decide +kernel
theorem dX0_canHold_18 : decode cX0_canHold 18 = .ok (.iload_n 1, 1) := by decide +kernel
theorem dX0_canHold_19 : decode cX0_canHold 19 = .ok (.bipush 16, 2) := by decide +kernel
theorem dX0_canHold_21 : decode cX0_canHold 21 = .ok (.irem, 1) := by decide +kernel
theorem dX0_canHold_22 : decode cX0_canHold 22 = .ok (.invokestatic 81, 3) := by decide +kernel
theorem dX0_canHold_25 : decode cX0_canHold 25 = .ok (.iconst (-1), 1) := by decide +kernel
theorem dX0_canHold_26 : decode cX0_canHold 26 = .ok (.if_icmp .eq 7, 3) := by decide +kernel
theorem dX0_canHold_29 : decode cX0_canHold 29 = .ok (.iconst 1, 1) := by decide +kernel
theorem dX0_canHold_30 : decode cX0_canHold 30 = .ok (.goto 4, 3) := by decide +kernel
theorem dX0_canHold_33 : decode cX0_canHold 33 = .ok (.iconst 0, 1) := by decide +kernel
theorem dX0_canHold_34 : decode cX0_canHold 34 = .ok (.istore 5, 2) := by decide +kernel
theorem dX0_canHold_36 : decode cX0_canHold 36 = .ok (.iload 5, 2) := by decide +kernel
theorem dX0_canHold_38 : decode cX0_canHold 38 = .ok (.ifCond .eq 25, 3) := by decide +kernel
theorem dX0_canHold_41 : decode cX0_canHold 41 = .ok (.aload_n 0, 1) := by decide +kernel
theorem dX0_canHold_42 : decode cX0_canHold 42 = .ok (.iload_n 3, 1) := by decide +kernel
theorem dX0_canHold_43 : decode cX0_canHold 43 = .ok (.invokevirtual 38, 3) := by decide +kernel
theorem dX0_canHold_46 : decode cX0_canHold 46 = .ok (.ifCond .eq 13, 3) := by decide +kernel
theorem dX0_canHold_49 : decode cX0_canHold 49 = .ok (.aload_n 0, 1) := by decide +kernel
theorem dX0_canHold_50 : decode cX0_canHold 50 = .ok (.iload_n 3, 1) := by decide +kernel
theorem dX0_canHold_51 : decode cX0_canHold 51 = .ok (.iload 4, 2) := by decide +kernel
theorem dX0_canHold_53 : decode cX0_canHold 53 = .ok (.invokevirtual 84, 3) := by decide +kernel
theorem dX0_canHold_56 : decode cX0_canHold 56 = .ok (.ifCond .eq 7, 3) := by decide +kernel
theorem dX0_canHold_59 : decode cX0_canHold 59 = .ok (.iconst 1, 1) := by decide +kernel
theorem dX0_canHold_60 : decode cX0_canHold 60 = .ok (.goto 4, 3) := by decide +kernel
theorem dX0_canHold_63 : decode cX0_canHold 63 = .ok (.iconst 0, 1) := by decide +kernel
theorem dX0_canHold_64 : decode cX0_canHold 64 = .ok (.ireturn, 1) := by decide +kernel
theorem dX0_canHold_65 : decode cX0_canHold 65 = .ok (.iload_n 2, 1) := by decide +kernel
theorem dX0_canHold_66 : decode cX0_canHold 66 = .ok (.invokestatic 75, 3) := by decide +kernel
theorem dX0_canHold_69 : decode cX0_canHold 69 = .ok (.istore 5, 2) := by decide +kernel
theorem dX0_canHold_71 : decode cX0_canHold 71 = .ok (.iload_n 1, 1) := by decide +kernel
theorem dX0_canHold_72 : decode cX0_canHold 72 = .ok (.bipush 16, 2) := by decide +kernel
theorem dX0_canHold_74 : decode cX0_canHold 74 = .ok (.irem, 1) := by decide +kernel
theorem dX0_canHold_75 : decode cX0_canHold 75 = .ok (.ifCond .ne 27, 3) := by decide +kernel
theorem dX0_canHold_78 : decode cX0_canHold 78 = .ok (.iload_n 3, 1) := by decide +kernel
theorem dX0_canHold_79 : decode cX0_canHold 79 = .ok (.iload 5, 2) := by decide +kernel
theorem dX0_canHold_81 : decode cX0_canHold 81 = .ok (.invokestatic 44, 3) := by decide +kernel
theorem dX0_canHold_84 : decode cX0_canHold 84 = .ok (.iload_n 3, 1) := by decide +kernel
theorem dX0_canHold_85 : decode cX0_canHold 85 = .ok (.if_icmp .ne 17, 3) := by decide +kernel
theorem dX0_canHold_88 : decode cX0_canHold 88 = .ok (.aload_n 0, 1) := by decide +kernel
theorem dX0_canHold_89 : decode cX0_canHold 89 = .ok (.iload_n 3, 1) := by decide +kernel
theorem dX0_canHold_90 : decode cX0_canHold 90 = .ok (.iload 5, 2) := by decide +kernel
theorem dX0_canHold_92 : decode cX0_canHold 92 = .ok (.invokevirtual 87, 3) := by decide +kernel
theorem dX0_canHold_95 : decode cX0_canHold 95 = .ok (.ifCond .eq 7, 3) := by decide +kernel
theorem dX0_canHold_98 : decode cX0_canHold 98 = .ok (.iconst 1, 1) := by decide +kernel
theorem dX0_canHold_99 : decode cX0_canHold 99 = .ok (.goto 4, 3) := by decide +kernel
theorem dX0_canHold_102 : decode cX0_canHold 102 = .ok (.iconst 0, 1) := by decide +kernel
theorem dX0_canHold_103 : decode cX0_canHold 103 = .ok (.ireturn, 1) := by decide +kernel
set_option maxRecDepth 20000 in
theorem ggX0_add_X0_pageOf : GoodIn wsX0_add wsX0_pageOf := goodIn_r _ [5] (by decide +kernel) (by decide +kernel)
set_option maxRecDepth 20000 in
theorem gX0_add_X0_pageOf : GoodIn wsX0_add (va_wsS RX0 60 yX0_pageOf wsX0_pageOf) := goodIn_app (goodIn_of _ (by decide +kernel)) ggX0_add_X0_pageOf
set_option maxRecDepth 20000 in
theorem ggX0_add_X2_classFor : GoodIn wsX0_add wsX2_classFor := goodIn_r _ [8, 9] (by decide +kernel) (by decide +kernel)
set_option maxRecDepth 20000 in
theorem gX0_add_X2_classFor_n69 : GoodIn wsX0_add (wsX2_classFor) := ggX0_add_X2_classFor
set_option maxRecDepth 20000 in
theorem ggX0_add_X0_lay : GoodIn wsX0_add wsX0_lay := goodIn_r _ [13, 14, 15, 16, 7, 17, 38, 39, 40, 41] (by decide +kernel) (by decide +kernel)
set_option maxRecDepth 20000 in
theorem gX0_add_X0_lay : GoodIn wsX0_add (wsV RX0 90 RX0 yX0_lay wsX0_lay) := goodIn_app (goodIn_of _ (by decide +kernel)) ggX0_add_X0_lay
set_option maxRecDepth 20000 in
theorem ggX0_add_X2_orderFor : GoodIn wsX0_add wsX2_orderFor := goodIn_r _ [19, 20, 6, 7, 8, 9] (by decide +kernel) (by decide +kernel)
set_option maxRecDepth 20000 in
theorem gX0_add_X2_orderFor_n75 : GoodIn wsX0_add (wsX2_orderFor) := ggX0_add_X2_orderFor
set_option maxRecDepth 20000 in
theorem ggX0_add_X0_layExtent : GoodIn wsX0_add wsX0_layExtent := goodIn_r _ [24, 25, 7, 26, 10, 11, 12, 4, 13, 14, 15, 16, 17, 38, 39, 40, 41] (by decide +kernel) (by decide +kernel)
set_option maxRecDepth 20000 in
theorem gX0_add_X0_layExtent : GoodIn wsX0_add (wsV RX0 94 RX0 yX0_layExtent wsX0_layExtent) := goodIn_app (goodIn_of _ (by decide +kernel)) ggX0_add_X0_layExtent
set_option maxRecDepth 20000 in
theorem ggX0_add_X0_slotAt : GoodIn wsX0_add wsX0_slotAt := goodIn_r _ [30, 2, 3, 4, 5, 31, 32, 33, 34, 14, 15, 35, 36, 37, 38, 39, 40, 41] (by decide +kernel) (by decide +kernel)
set_option maxRecDepth 20000 in
theorem gX0_add_X0_slotAt : GoodIn wsX0_add (wsV RX0 63 RX0 yX0_slotAt wsX0_slotAt) := goodIn_app (goodIn_of _ (by decide +kernel)) ggX0_add_X0_slotAt
set_option maxRecDepth 20000 in
theorem ggX0_add_X2_isPage : GoodIn wsX0_add wsX2_isPage := goodIn_r _ [17] (by decide +kernel) (by decide +kernel)
set_option maxRecDepth 20000 in
theorem gX0_add_X2_isPage_n30 : GoodIn wsX0_add (wsX2_isPage) := ggX0_add_X2_isPage
theorem dX0_add_0 : decode cX0_add 0 = .ok (.iload_n 1, 1) := by decide +kernel
theorem dX0_add_1 : decode cX0_add 1 = .ok (.invokestatic 60, 3) := by decide +kernel
theorem dX0_add_4 : decode cX0_add 4 = .ok (.istore_n 3, 1) := by decide +kernel
theorem dX0_add_5 : decode cX0_add 5 = .ok (.iload_n 2, 1) := by decide +kernel
theorem dX0_add_6 : decode cX0_add 6 = .ok (.invokestatic 69, 3) := by decide +kernel
theorem dX0_add_9 : decode cX0_add 9 = .ok (.istore 4, 2) := by decide +kernel
theorem dX0_add_11 : decode cX0_add 11 = .ok (.iload 4, 2) := by decide +kernel
theorem dX0_add_13 : decode cX0_add 13 = .ok (.ifCond .le 14, 3) := by decide +kernel
theorem dX0_add_16 : decode cX0_add 16 = .ok (.aload_n 0, 1) := by decide +kernel
theorem dX0_add_17 : decode cX0_add 17 = .ok (.iload_n 3, 1) := by decide +kernel
theorem dX0_add_18 : decode cX0_add 18 = .ok (.iconst 1, 1) := by decide +kernel
theorem dX0_add_19 : decode cX0_add 19 = .ok (.iload 4, 2) := by decide +kernel
theorem dX0_add_21 : decode cX0_add 21 = .ok (.invokevirtual 90, 3) := by decide +kernel
theorem dX0_add_24 : decode cX0_add 24 = .ok (.goto 12, 3) := by decide +kernel
theorem dX0_add_27 : decode cX0_add 27 = .ok (.aload_n 0, 1) := by decide +kernel
theorem dX0_add_28 : decode cX0_add 28 = .ok (.iload_n 3, 1) := by decide +kernel
theorem dX0_add_29 : decode cX0_add 29 = .ok (.iload_n 2, 1) := by decide +kernel
theorem dX0_add_30 : decode cX0_add 30 = .ok (.invokestatic 75, 3) := by decide +kernel
theorem dX0_add_33 : decode cX0_add 33 = .ok (.invokevirtual 94, 3) := by decide +kernel
theorem dX0_add_36 : decode cX0_add 36 = .ok (.aload_n 0, 1) := by decide +kernel
theorem dX0_add_37 : decode cX0_add 37 = .ok (.iload_n 1, 1) := by decide +kernel
theorem dX0_add_38 : decode cX0_add 38 = .ok (.invokevirtual 63, 3) := by decide +kernel
theorem dX0_add_41 : decode cX0_add 41 = .ok (.istore 5, 2) := by decide +kernel
theorem dX0_add_43 : decode cX0_add 43 = .ok (.iload_n 3, 1) := by decide +kernel
theorem dX0_add_44 : decode cX0_add 44 = .ok (.invokestatic 30, 3) := by decide +kernel
theorem dX0_add_47 : decode cX0_add 47 = .ok (.ifCond .eq 22, 3) := by decide +kernel
theorem dX0_add_50 : decode cX0_add 50 = .ok (.iload 5, 2) := by decide +kernel
theorem dX0_add_52 : decode cX0_add 52 = .ok (.iconst (-1), 1) := by decide +kernel
theorem dX0_add_53 : decode cX0_add 53 = .ok (.if_icmp .eq 16, 3) := by decide +kernel
theorem dX0_add_56 : decode cX0_add 56 = .ok (.aload_n 0, 1) := by decide +kernel
theorem dX0_add_57 : decode cX0_add 57 = .ok (.getfield 18, 3) := by decide +kernel
theorem dX0_add_60 : decode cX0_add 60 = .ok (.iload_n 3, 1) := by decide +kernel
theorem dX0_add_61 : decode cX0_add 61 = .ok (.dup2, 1) := by decide +kernel
theorem dX0_add_62 : decode cX0_add 62 = .ok (.iaload, 1) := by decide +kernel
theorem dX0_add_63 : decode cX0_add 63 = .ok (.iconst 1, 1) := by decide +kernel
theorem dX0_add_64 : decode cX0_add 64 = .ok (.iload 5, 2) := by decide +kernel
theorem dX0_add_66 : decode cX0_add 66 = .ok (.ishl, 1) := by decide +kernel
theorem dX0_add_67 : decode cX0_add 67 = .ok (.ior, 1) := by decide +kernel
theorem dX0_add_68 : decode cX0_add 68 = .ok (.iastore, 1) := by decide +kernel
theorem dX0_add_69 : decode cX0_add 69 = .ok (.return_, 1) := by decide +kernel
set_option maxRecDepth 20000 in
theorem ggX0_remove_X0_pageOf : GoodIn wsX0_remove wsX0_pageOf := goodIn_r _ [7] (by decide +kernel) (by decide +kernel)
set_option maxRecDepth 20000 in
theorem gX0_remove_X0_pageOf : GoodIn wsX0_remove (va_wsS RX0 60 yX0_pageOf wsX0_pageOf) := goodIn_app (goodIn_of _ (by decide +kernel)) ggX0_remove_X0_pageOf
set_option maxRecDepth 20000 in
theorem ggX0_remove_X0_slotAt : GoodIn wsX0_remove wsX0_slotAt := goodIn_r _ [11, 4, 5, 6, 7, 12, 13, 14, 15, 2, 3, 16, 17, 18, 30, 31, 32, 33] (by decide +kernel) (by decide +kernel)
set_option maxRecDepth 20000 in
theorem gX0_remove_X0_slotAt : GoodIn wsX0_remove (wsV RX0 63 RX0 yX0_slotAt wsX0_slotAt) := goodIn_app (goodIn_of _ (by decide +kernel)) ggX0_remove_X0_slotAt
set_option maxRecDepth 20000 in
theorem ggX0_remove_X2_isPage : GoodIn wsX0_remove wsX2_isPage := goodIn_r _ [21] (by decide +kernel) (by decide +kernel)
set_option maxRecDepth 20000 in
theorem gX0_remove_X2_isPage_n30 : GoodIn wsX0_remove (wsX2_isPage) := ggX0_remove_X2_isPage
set_option maxRecDepth 20000 in
theorem ggX0_remove_X0_isTaken : GoodIn wsX0_remove wsX0_isTaken := goodIn_r _ [25, 1, 30, 31, 32, 33] (by decide +kernel) (by decide +kernel)
set_option maxRecDepth 20000 in
theorem gX0_remove_X0_isTaken : GoodIn wsX0_remove (wsV RX0 56 RX0 yX0_isTaken wsX0_isTaken) := goodIn_app (goodIn_of _ (by decide +kernel)) ggX0_remove_X0_isTaken
set_option maxRecDepth 20000 in
theorem ggX0_remove_X0_lay : GoodIn wsX0_remove wsX0_lay := goodIn_r _ [29, 2, 3, 19, 20, 21, 30, 31, 32, 33] (by decide +kernel) (by decide +kernel)
set_option maxRecDepth 20000 in
theorem gX0_remove_X0_lay : GoodIn wsX0_remove (wsV RX0 90 RX0 yX0_lay wsX0_lay) := goodIn_app (goodIn_of _ (by decide +kernel)) ggX0_remove_X0_lay
theorem dX0_remove_0 : decode cX0_remove 0 = .ok (.iload_n 1, 1) := by decide +kernel
theorem dX0_remove_1 : decode cX0_remove 1 = .ok (.invokestatic 60, 3) := by decide +kernel
theorem dX0_remove_4 : decode cX0_remove 4 = .ok (.istore_n 2, 1) := by decide +kernel
theorem dX0_remove_5 : decode cX0_remove 5 = .ok (.aload_n 0, 1) := by decide +kernel
theorem dX0_remove_6 : decode cX0_remove 6 = .ok (.iload_n 1, 1) := by decide +kernel
theorem dX0_remove_7 : decode cX0_remove 7 = .ok (.invokevirtual 63, 3) := by decide +kernel
theorem dX0_remove_10 : decode cX0_remove 10 = .ok (.istore_n 3, 1) := by decide +kernel
theorem dX0_remove_11 : decode cX0_remove 11 = .ok (.iload_n 2, 1) := by decide +kernel
theorem dX0_remove_12 : decode cX0_remove 12 = .ok (.invokestatic 30, 3) := by decide +kernel
theorem dX0_remove_15 : decode cX0_remove 15 = .ok (.ifCond .eq 12, 3) := by decide +kernel
theorem dX0_remove_18 : decode cX0_remove 18 = .ok (.aload_n 0, 1) := by decide +kernel
theorem dX0_remove_19 : decode cX0_remove 19 = .ok (.iload_n 2, 1) := by decide +kernel
theorem dX0_remove_20 : decode cX0_remove 20 = .ok (.iload_n 3, 1) := by decide +kernel
theorem dX0_remove_21 : decode cX0_remove 21 = .ok (.invokevirtual 56, 3) := by decide +kernel
theorem dX0_remove_24 : decode cX0_remove 24 = .ok (.ifCond .ne 4, 3) := by decide +kernel
theorem dX0_remove_27 : decode cX0_remove 27 = .ok (.return_, 1) := by decide +kernel
theorem dX0_remove_28 : decode cX0_remove 28 = .ok (.aload_n 0, 1) := by decide +kernel
theorem dX0_remove_29 : decode cX0_remove 29 = .ok (.getfield 18, 3) := by decide +kernel
theorem dX0_remove_32 : decode cX0_remove 32 = .ok (.iload_n 2, 1) := by decide +kernel
theorem dX0_remove_33 : decode cX0_remove 33 = .ok (.dup2, 1) := by decide +kernel
theorem dX0_remove_34 : decode cX0_remove 34 = .ok (.iaload, 1) := by decide +kernel
theorem dX0_remove_35 : decode cX0_remove 35 = .ok (.iconst 1, 1) := by decide +kernel
theorem dX0_remove_36 : decode cX0_remove 36 = .ok (.iload_n 3, 1) := by decide +kernel
theorem dX0_remove_37 : decode cX0_remove 37 = .ok (.ishl, 1) := by decide +kernel
theorem dX0_remove_38 : decode cX0_remove 38 = .ok (.iconst (-1), 1) := by decide +kernel
theorem dX0_remove_39 : decode cX0_remove 39 = .ok (.ixor, 1) := by decide +kernel
theorem dX0_remove_40 : decode cX0_remove 40 = .ok (.iand, 1) := by decide +kernel
theorem dX0_remove_41 : decode cX0_remove 41 = .ok (.iastore, 1) := by decide +kernel
theorem dX0_remove_42 : decode cX0_remove 42 = .ok (.aload_n 0, 1) := by decide +kernel
theorem dX0_remove_43 : decode cX0_remove 43 = .ok (.getfield 18, 3) := by decide +kernel
theorem dX0_remove_46 : decode cX0_remove 46 = .ok (.iload_n 2, 1) := by decide +kernel
theorem dX0_remove_47 : decode cX0_remove 47 = .ok (.iaload, 1) := by decide +kernel
theorem dX0_remove_48 : decode cX0_remove 48 = .ok (.ifCond .ne 53, 3) := by decide +kernel
theorem dX0_remove_51 : decode cX0_remove 51 = .ok (.aload_n 0, 1) := by decide +kernel
theorem dX0_remove_52 : decode cX0_remove 52 = .ok (.getfield 9, 3) := by decide +kernel
theorem dX0_remove_55 : decode cX0_remove 55 = .ok (.iload_n 2, 1) := by decide +kernel
theorem dX0_remove_56 : decode cX0_remove 56 = .ok (.iaload, 1) := by decide +kernel
theorem dX0_remove_57 : decode cX0_remove 57 = .ok (.iconst 2, 1) := by decide +kernel
theorem dX0_remove_58 : decode cX0_remove 58 = .ok (.if_icmp .ne 14, 3) := by decide +kernel
theorem dX0_remove_61 : decode cX0_remove 61 = .ok (.iconst 1, 1) := by decide +kernel
theorem dX0_remove_62 : decode cX0_remove 62 = .ok (.aload_n 0, 1) := by decide +kernel
theorem dX0_remove_63 : decode cX0_remove 63 = .ok (.getfield 15, 3) := by decide +kernel
theorem dX0_remove_66 : decode cX0_remove 66 = .ok (.iload_n 2, 1) := by decide +kernel
theorem dX0_remove_67 : decode cX0_remove 67 = .ok (.iaload, 1) := by decide +kernel
theorem dX0_remove_68 : decode cX0_remove 68 = .ok (.ishl, 1) := by decide +kernel
theorem dX0_remove_69 : decode cX0_remove 69 = .ok (.goto 4, 3) := by decide +kernel
theorem dX0_remove_72 : decode cX0_remove 72 = .ok (.iconst 1, 1) := by decide +kernel
theorem dX0_remove_73 : decode cX0_remove 73 = .ok (.istore 4, 2) := by decide +kernel
theorem dX0_remove_75 : decode cX0_remove 75 = .ok (.iconst 0, 1) := by decide +kernel
theorem dX0_remove_76 : decode cX0_remove 76 = .ok (.istore 5, 2) := by decide +kernel
theorem dX0_remove_78 : decode cX0_remove 78 = .ok (.iload 5, 2) := by decide +kernel
theorem dX0_remove_80 : decode cX0_remove 80 = .ok (.iload 4, 2) := by decide +kernel
theorem dX0_remove_82 : decode cX0_remove 82 = .ok (.if_icmp .ge 19, 3) := by decide +kernel
theorem dX0_remove_85 : decode cX0_remove 85 = .ok (.aload_n 0, 1) := by decide +kernel
theorem dX0_remove_86 : decode cX0_remove 86 = .ok (.iload_n 2, 1) := by decide +kernel
theorem dX0_remove_87 : decode cX0_remove 87 = .ok (.iload 5, 2) := by decide +kernel
theorem dX0_remove_89 : decode cX0_remove 89 = .ok (.iadd, 1) := by decide +kernel
theorem dX0_remove_90 : decode cX0_remove 90 = .ok (.iconst 0, 1) := by decide +kernel
theorem dX0_remove_91 : decode cX0_remove 91 = .ok (.iconst 0, 1) := by decide +kernel
theorem dX0_remove_92 : decode cX0_remove 92 = .ok (.invokevirtual 90, 3) := by decide +kernel
theorem dX0_remove_95 : decode cX0_remove 95 = .ok (.iinc 5 1, 3) := by decide +kernel
theorem dX0_remove_98 : decode cX0_remove 98 = .ok (.goto (-20), 3) := by decide +kernel
theorem dX0_remove_101 : decode cX0_remove 101 = .ok (.return_, 1) := by decide +kernel
set_option maxRecDepth 20000 in
theorem ggX0_clearMarks_J7_fill_53178 : GoodIn wsX0_clearMarks wsJ7_fill_53178 := goodIn_r _ [5] (by decide +kernel) (by decide +kernel)
set_option maxRecDepth 20000 in
theorem gX0_clearMarks_J7_fill_53178 : GoodIn wsX0_clearMarks (va_wsS RX0 24 yJ7_fill_53178 wsJ7_fill_53178) := goodIn_app (goodIn_of _ (by decide +kernel)) ggX0_clearMarks_J7_fill_53178
theorem dX0_clearMarks_0 : decode cX0_clearMarks 0 = .ok (.aload_n 0, 1) := by decide +kernel
theorem dX0_clearMarks_1 : decode cX0_clearMarks 1 = .ok (.getfield 21, 3) := by decide +kernel
theorem dX0_clearMarks_4 : decode cX0_clearMarks 4 = .ok (.iconst 0, 1) := by decide +kernel
theorem dX0_clearMarks_5 : decode cX0_clearMarks 5 = .ok (.invokestatic 24, 3) := by decide +kernel
theorem dX0_clearMarks_8 : decode cX0_clearMarks 8 = .ok (.return_, 1) := by decide +kernel
set_option maxRecDepth 20000 in
theorem ggX0_isMarked_X0_pageOf : GoodIn wsX0_isMarked wsX0_pageOf := goodIn_r _ [5] (by decide +kernel) (by decide +kernel)
set_option maxRecDepth 20000 in
theorem gX0_isMarked_X0_pageOf : GoodIn wsX0_isMarked (va_wsS RX0 60 yX0_pageOf wsX0_pageOf) := goodIn_app (goodIn_of _ (by decide +kernel)) ggX0_isMarked_X0_pageOf
set_option maxRecDepth 20000 in
theorem ggX0_isMarked_X0_slotAt : GoodIn wsX0_isMarked wsX0_slotAt := goodIn_r _ [9, 2, 3, 4, 5, 10, 11, 12, 13, 14, 15, 16, 17, 18, 27, 28, 29, 30] (by decide +kernel) (by decide +kernel)
set_option maxRecDepth 20000 in
theorem gX0_isMarked_X0_slotAt : GoodIn wsX0_isMarked (wsV RX0 63 RX0 yX0_slotAt wsX0_slotAt) := goodIn_app (goodIn_of _ (by decide +kernel)) ggX0_isMarked_X0_slotAt
set_option maxRecDepth 20000 in
theorem ggX0_isMarked_X2_isPage : GoodIn wsX0_isMarked wsX2_isPage := goodIn_r _ [21] (by decide +kernel) (by decide +kernel)
set_option maxRecDepth 20000 in
theorem gX0_isMarked_X2_isPage_n30 : GoodIn wsX0_isMarked (wsX2_isPage) := ggX0_isMarked_X2_isPage
set_option maxRecDepth 20000 in
theorem ggX0_isMarked_X0_isTaken : GoodIn wsX0_isMarked wsX0_isTaken := goodIn_r _ [25, 26, 27, 28, 29, 30] (by decide +kernel) (by decide +kernel)
set_option maxRecDepth 20000 in
theorem gX0_isMarked_X0_isTaken : GoodIn wsX0_isMarked (wsV RX0 56 RX0 yX0_isTaken wsX0_isTaken) := goodIn_app (goodIn_of _ (by decide +kernel)) ggX0_isMarked_X0_isTaken
theorem dX0_isMarked_0 : decode cX0_isMarked 0 = .ok (.iload_n 1, 1) := by decide +kernel
theorem dX0_isMarked_1 : decode cX0_isMarked 1 = .ok (.invokestatic 60, 3) := by decide +kernel
theorem dX0_isMarked_4 : decode cX0_isMarked 4 = .ok (.istore_n 2, 1) := by decide +kernel
theorem dX0_isMarked_5 : decode cX0_isMarked 5 = .ok (.aload_n 0, 1) := by decide +kernel
theorem dX0_isMarked_6 : decode cX0_isMarked 6 = .ok (.iload_n 1, 1) := by decide +kernel
theorem dX0_isMarked_7 : decode cX0_isMarked 7 = .ok (.invokevirtual 63, 3) := by decide +kernel
theorem dX0_isMarked_10 : decode cX0_isMarked 10 = .ok (.istore_n 3, 1) := by decide +kernel
theorem dX0_isMarked_11 : decode cX0_isMarked 11 = .ok (.iload_n 2, 1) := by decide +kernel
theorem dX0_isMarked_12 : decode cX0_isMarked 12 = .ok (.invokestatic 30, 3) := by decide +kernel
theorem dX0_isMarked_15 : decode cX0_isMarked 15 = .ok (.ifCond .eq 30, 3) := by decide +kernel
theorem dX0_isMarked_18 : decode cX0_isMarked 18 = .ok (.aload_n 0, 1) := by decide +kernel
theorem dX0_isMarked_19 : decode cX0_isMarked 19 = .ok (.iload_n 2, 1) := by decide +kernel
theorem dX0_isMarked_20 : decode cX0_isMarked 20 = .ok (.iload_n 3, 1) := by decide +kernel
theorem dX0_isMarked_21 : decode cX0_isMarked 21 = .ok (.invokevirtual 56, 3) := by decide +kernel
theorem dX0_isMarked_24 : decode cX0_isMarked 24 = .ok (.ifCond .eq 21, 3) := by decide +kernel
theorem dX0_isMarked_27 : decode cX0_isMarked 27 = .ok (.aload_n 0, 1) := by decide +kernel
theorem dX0_isMarked_28 : decode cX0_isMarked 28 = .ok (.getfield 21, 3) := by decide +kernel
theorem dX0_isMarked_31 : decode cX0_isMarked 31 = .ok (.iload_n 2, 1) := by decide +kernel
theorem dX0_isMarked_32 : decode cX0_isMarked 32 = .ok (.iaload, 1) := by decide +kernel
theorem dX0_isMarked_33 : decode cX0_isMarked 33 = .ok (.iload_n 3, 1) := by decide +kernel
theorem dX0_isMarked_34 : decode cX0_isMarked 34 = .ok (.iushr, 1) := by decide +kernel
theorem dX0_isMarked_35 : decode cX0_isMarked 35 = .ok (.iconst 1, 1) := by decide +kernel
theorem dX0_isMarked_36 : decode cX0_isMarked 36 = .ok (.iand, 1) := by decide +kernel
theorem dX0_isMarked_37 : decode cX0_isMarked 37 = .ok (.iconst 1, 1) := by decide +kernel
theorem dX0_isMarked_38 : decode cX0_isMarked 38 = .ok (.if_icmp .ne 7, 3) := by decide +kernel
theorem dX0_isMarked_41 : decode cX0_isMarked 41 = .ok (.iconst 1, 1) := by decide +kernel
theorem dX0_isMarked_42 : decode cX0_isMarked 42 = .ok (.goto 4, 3) := by decide +kernel
theorem dX0_isMarked_45 : decode cX0_isMarked 45 = .ok (.iconst 0, 1) := by decide +kernel
theorem dX0_isMarked_46 : decode cX0_isMarked 46 = .ok (.ireturn, 1) := by decide +kernel
set_option maxRecDepth 20000 in
theorem ggX0_mark_X0_pageOf : GoodIn wsX0_mark wsX0_pageOf := goodIn_r _ [5] (by decide +kernel) (by decide +kernel)
set_option maxRecDepth 20000 in
theorem gX0_mark_X0_pageOf : GoodIn wsX0_mark (va_wsS RX0 60 yX0_pageOf wsX0_pageOf) := goodIn_app (goodIn_of _ (by decide +kernel)) ggX0_mark_X0_pageOf
set_option maxRecDepth 20000 in
theorem ggX0_mark_X2_isPage : GoodIn wsX0_mark wsX2_isPage := goodIn_r _ [8] (by decide +kernel) (by decide +kernel)
set_option maxRecDepth 20000 in
theorem gX0_mark_X2_isPage_n30 : GoodIn wsX0_mark (wsX2_isPage) := ggX0_mark_X2_isPage
set_option maxRecDepth 20000 in
theorem ggX0_mark_X0_isLive : GoodIn wsX0_mark wsX0_isLive := goodIn_r _ [12, 2, 3, 4, 5, 13, 14, 15, 16, 17, 18, 19, 20, 21, 22, 23, 24, 25, 26, 27, 28, 29, 30, 35, 36, 37, 38] (by decide +kernel) (by decide +kernel)
set_option maxRecDepth 20000 in
theorem gX0_mark_X0_isLive : GoodIn wsX0_mark (wsV RX0 98 RX0 yX0_isLive wsX0_isLive) := goodIn_app (goodIn_of _ (by decide +kernel)) ggX0_mark_X0_isLive
set_option maxRecDepth 20000 in
theorem ggX0_mark_X0_isMarked : GoodIn wsX0_mark wsX0_isMarked := goodIn_r _ [34, 1, 2, 3, 4, 5, 13, 14, 15, 16, 17, 18, 19, 20, 21, 22, 23, 24, 25, 6, 7, 8, 26, 27, 28, 29, 30, 35, 36, 37, 38] (by decide +kernel) (by decide +kernel)
set_option maxRecDepth 20000 in
theorem gX0_mark_X0_isMarked : GoodIn wsX0_mark (wsV RX0 101 RX0 yX0_isMarked wsX0_isMarked) := goodIn_app (goodIn_of _ (by decide +kernel)) ggX0_mark_X0_isMarked
set_option maxRecDepth 20000 in
theorem ggX0_mark_X0_slotAt : GoodIn wsX0_mark wsX0_slotAt := goodIn_r _ [16, 2, 3, 4, 5, 17, 18, 19, 20, 21, 22, 23, 24, 25, 35, 36, 37, 38] (by decide +kernel) (by decide +kernel)
set_option maxRecDepth 20000 in
theorem gX0_mark_X0_slotAt : GoodIn wsX0_mark (wsV RX0 63 RX0 yX0_slotAt wsX0_slotAt) := goodIn_app (goodIn_of _ (by decide +kernel)) ggX0_mark_X0_slotAt
theorem dX0_mark_0 : decode cX0_mark 0 = .ok (.iload_n 1, 1) := by decide +kernel
theorem dX0_mark_1 : decode cX0_mark 1 = .ok (.invokestatic 60, 3) := by decide +kernel
theorem dX0_mark_4 : decode cX0_mark 4 = .ok (.istore_n 2, 1) := by decide +kernel
theorem dX0_mark_5 : decode cX0_mark 5 = .ok (.iload_n 2, 1) := by decide +kernel
theorem dX0_mark_6 : decode cX0_mark 6 = .ok (.invokestatic 30, 3) := by decide +kernel
theorem dX0_mark_9 : decode cX0_mark 9 = .ok (.ifCond .eq 19, 3) := by decide +kernel
theorem dX0_mark_12 : decode cX0_mark 12 = .ok (.aload_n 0, 1) := by decide +kernel
theorem dX0_mark_13 : decode cX0_mark 13 = .ok (.iload_n 1, 1) := by decide +kernel
theorem dX0_mark_14 : decode cX0_mark 14 = .ok (.invokevirtual 98, 3) := by decide +kernel
theorem dX0_mark_17 : decode cX0_mark 17 = .ok (.ifCond .eq 11, 3) := by decide +kernel
theorem dX0_mark_20 : decode cX0_mark 20 = .ok (.aload_n 0, 1) := by decide +kernel
theorem dX0_mark_21 : decode cX0_mark 21 = .ok (.iload_n 1, 1) := by decide +kernel
theorem dX0_mark_22 : decode cX0_mark 22 = .ok (.invokevirtual 101, 3) := by decide +kernel
theorem dX0_mark_25 : decode cX0_mark 25 = .ok (.ifCond .eq 5, 3) := by decide +kernel
theorem dX0_mark_28 : decode cX0_mark 28 = .ok (.iconst 0, 1) := by decide +kernel
theorem dX0_mark_29 : decode cX0_mark 29 = .ok (.ireturn, 1) := by decide +kernel
theorem dX0_mark_30 : decode cX0_mark 30 = .ok (.aload_n 0, 1) := by decide +kernel
theorem dX0_mark_31 : decode cX0_mark 31 = .ok (.getfield 21, 3) := by decide +kernel
theorem dX0_mark_34 : decode cX0_mark 34 = .ok (.iload_n 2, 1) := by decide +kernel
theorem dX0_mark_35 : decode cX0_mark 35 = .ok (.dup2, 1) := by decide +kernel
theorem dX0_mark_36 : decode cX0_mark 36 = .ok (.iaload, 1) := by decide +kernel
theorem dX0_mark_37 : decode cX0_mark 37 = .ok (.iconst 1, 1) := by decide +kernel
theorem dX0_mark_38 : decode cX0_mark 38 = .ok (.aload_n 0, 1) := by decide +kernel
theorem dX0_mark_39 : decode cX0_mark 39 = .ok (.iload_n 1, 1) := by decide +kernel
theorem dX0_mark_40 : decode cX0_mark 40 = .ok (.invokevirtual 63, 3) := by decide +kernel
theorem dX0_mark_43 : decode cX0_mark 43 = .ok (.ishl, 1) := by decide +kernel
theorem dX0_mark_44 : decode cX0_mark 44 = .ok (.ior, 1) := by decide +kernel
theorem dX0_mark_45 : decode cX0_mark 45 = .ok (.iastore, 1) := by decide +kernel
theorem dX0_mark_46 : decode cX0_mark 46 = .ok (.iconst 1, 1) := by decide +kernel
theorem dX0_mark_47 : decode cX0_mark 47 = .ok (.ireturn, 1) := by decide +kernel
set_option maxRecDepth 20000 in
theorem ggX0_howMany_X0_kindOf : GoodIn wsX0_howMany wsX0_kindOf := goodIn_r _ [5, 6, 7, 8, 9, 10] (by decide +kernel) (by decide +kernel)
set_option maxRecDepth 20000 in
theorem gX0_howMany_X0_kindOf : GoodIn wsX0_howMany (wsV RX0 38 RX0 yX0_kindOf wsX0_kindOf) := goodIn_app (goodIn_of _ (by decide +kernel)) ggX0_howMany_X0_kindOf
theorem dX0_howMany_0 : decode cX0_howMany 0 = .ok (.iconst 0, 1) := by decide +kernel
theorem dX0_howMany_1 : decode cX0_howMany 1 = .ok (.istore_n 2, 1) := by decide +kernel
theorem dX0_howMany_2 : decode cX0_howMany 2 = .ok (.iconst 0, 1) := by decide +kernel
theorem dX0_howMany_3 : decode cX0_howMany 3 = .ok (.istore_n 3, 1) := by decide +kernel
theorem dX0_howMany_4 : decode cX0_howMany 4 = .ok (.iload_n 3, 1) := by decide +kernel
theorem dX0_howMany_5 : decode cX0_howMany 5 = .ok (.sipush 256, 3) := by decide +kernel
theorem dX0_howMany_8 : decode cX0_howMany 8 = .ok (.if_icmp .ge 21, 3) := by decide +kernel
theorem dX0_howMany_11 : decode cX0_howMany 11 = .ok (.aload_n 0, 1) := by decide +kernel
theorem dX0_howMany_12 : decode cX0_howMany 12 = .ok (.iload_n 3, 1) := by decide +kernel
theorem dX0_howMany_13 : decode cX0_howMany 13 = .ok (.invokevirtual 38, 3) := by decide +kernel
theorem dX0_howMany_16 : decode cX0_howMany 16 = .ok (.iload_n 1, 1) := by decide +kernel
theorem dX0_howMany_17 : decode cX0_howMany 17 = .ok (.if_icmp .ne 6, 3) := by decide +kernel
theorem dX0_howMany_20 : decode cX0_howMany 20 = .ok (.iinc 2 1, 3) := by decide +kernel
theorem dX0_howMany_23 : decode cX0_howMany 23 = .ok (.iinc 3 1, 3) := by decide +kernel
theorem dX0_howMany_26 : decode cX0_howMany 26 = .ok (.goto (-22), 3) := by decide +kernel
theorem dX0_howMany_29 : decode cX0_howMany 29 = .ok (.iload_n 2, 1) := by decide +kernel
theorem dX0_howMany_30 : decode cX0_howMany 30 = .ok (.ireturn, 1) := by decide +kernel
set_option maxRecDepth 20000 in
theorem ggX0_emptySlots_X0_slotsOf : GoodIn wsX0_emptySlots wsX0_slotsOf := goodIn_r _ [5, 6, 7, 8, 4, 9, 10, 11, 27, 28, 29, 30] (by decide +kernel) (by decide +kernel)
set_option maxRecDepth 20000 in
theorem gX0_emptySlots_X0_slotsOf : GoodIn wsX0_emptySlots (wsV RX0 104 RX0 yX0_slotsOf wsX0_slotsOf) := goodIn_app (goodIn_of _ (by decide +kernel)) ggX0_emptySlots_X0_slotsOf
set_option maxRecDepth 20000 in
theorem ggX0_emptySlots_X0_blocksOn : GoodIn wsX0_emptySlots wsX0_blocksOn := goodIn_r _ [15, 16, 17, 18, 19, 20, 21, 22, 23, 24, 25, 26, 27, 28, 29, 30] (by decide +kernel) (by decide +kernel)
set_option maxRecDepth 20000 in
theorem gX0_emptySlots_X0_blocksOn : GoodIn wsX0_emptySlots (wsV RX0 107 RX0 yX0_blocksOn wsX0_blocksOn) := goodIn_app (goodIn_of _ (by decide +kernel)) ggX0_emptySlots_X0_blocksOn
theorem dX0_emptySlots_0 : decode cX0_emptySlots 0 = .ok (.iconst 0, 1) := by decide +kernel
theorem dX0_emptySlots_1 : decode cX0_emptySlots 1 = .ok (.istore_n 1, 1) := by decide +kernel
theorem dX0_emptySlots_2 : decode cX0_emptySlots 2 = .ok (.iconst 0, 1) := by decide +kernel
theorem dX0_emptySlots_3 : decode cX0_emptySlots 3 = .ok (.istore_n 2, 1) := by decide +kernel
theorem dX0_emptySlots_4 : decode cX0_emptySlots 4 = .ok (.iload_n 2, 1) := by decide +kernel
theorem dX0_emptySlots_5 : decode cX0_emptySlots 5 = .ok (.sipush 256, 3) := by decide +kernel
theorem dX0_emptySlots_8 : decode cX0_emptySlots 8 = .ok (.if_icmp .ge 23, 3) := by decide +kernel
theorem dX0_emptySlots_11 : decode cX0_emptySlots 11 = .ok (.iload_n 1, 1) := by decide +kernel
theorem dX0_emptySlots_12 : decode cX0_emptySlots 12 = .ok (.aload_n 0, 1) := by decide +kernel
theorem dX0_emptySlots_13 : decode cX0_emptySlots 13 = .ok (.iload_n 2, 1) := by decide +kernel
theorem dX0_emptySlots_14 : decode cX0_emptySlots 14 = .ok (.invokevirtual 104, 3) := by decide +kernel
theorem dX0_emptySlots_17 : decode cX0_emptySlots 17 = .ok (.aload_n 0, 1) := by decide +kernel
theorem dX0_emptySlots_18 : decode cX0_emptySlots 18 = .ok (.iload_n 2, 1) := by decide +kernel
theorem dX0_emptySlots_19 : decode cX0_emptySlots 19 = .ok (.invokevirtual 107, 3) := by decide +kernel
theorem dX0_emptySlots_22 : decode cX0_emptySlots 22 = .ok (.isub, 1) := by decide +kernel
theorem dX0_emptySlots_23 : decode cX0_emptySlots 23 = .ok (.iadd, 1) := by decide +kernel
theorem dX0_emptySlots_24 : decode cX0_emptySlots 24 = .ok (.istore_n 1, 1) := by decide +kernel
theorem dX0_emptySlots_25 : decode cX0_emptySlots 25 = .ok (.iinc 2 1, 3) := by decide +kernel
theorem dX0_emptySlots_28 : decode cX0_emptySlots 28 = .ok (.goto (-24), 3) := by decide +kernel
theorem dX0_emptySlots_31 : decode cX0_emptySlots 31 = .ok (.iload_n 1, 1) := by decide +kernel
theorem dX0_emptySlots_32 : decode cX0_emptySlots 32 = .ok (.ireturn, 1) := by decide +kernel
set_option maxRecDepth 20000 in
theorem ggX0_freeExtents_X2_isOrder : GoodIn wsX0_freeExtents wsX2_isOrder := goodIn_r _ [3] (by decide +kernel) (by decide +kernel)
set_option maxRecDepth 20000 in
theorem gX0_freeExtents_X2_isOrder_n110 : GoodIn wsX0_freeExtents (wsX2_isOrder) := ggX0_freeExtents_X2_isOrder
set_option maxRecDepth 20000 in
theorem ggX0_freeExtents_X0_isFreeExtent : GoodIn wsX0_freeExtents wsX0_isFreeExtent := goodIn_r _ [8, 9, 10, 11, 7, 12, 1, 2, 3, 13, 14, 15, 16, 17, 18, 19, 20, 21, 22, 23, 24] (by decide +kernel) (by decide +kernel)
set_option maxRecDepth 20000 in
theorem gX0_freeExtents_X0_isFreeExtent : GoodIn wsX0_freeExtents (wsV RX0 113 RX0 yX0_isFreeExtent wsX0_isFreeExtent) := goodIn_app (goodIn_of _ (by decide +kernel)) ggX0_freeExtents_X0_isFreeExtent
theorem dX0_freeExtents_0 : decode cX0_freeExtents 0 = .ok (.iload_n 1, 1) := by decide +kernel
theorem dX0_freeExtents_1 : decode cX0_freeExtents 1 = .ok (.invokestatic 110, 3) := by decide +kernel
theorem dX0_freeExtents_4 : decode cX0_freeExtents 4 = .ok (.ifCond .ne 5, 3) := by decide +kernel
theorem dX0_freeExtents_7 : decode cX0_freeExtents 7 = .ok (.iconst (-1), 1) := by decide +kernel
theorem dX0_freeExtents_8 : decode cX0_freeExtents 8 = .ok (.ireturn, 1) := by decide +kernel
theorem dX0_freeExtents_9 : decode cX0_freeExtents 9 = .ok (.iconst 0, 1) := by decide +kernel
theorem dX0_freeExtents_10 : decode cX0_freeExtents 10 = .ok (.istore_n 2, 1) := by decide +kernel
theorem dX0_freeExtents_11 : decode cX0_freeExtents 11 = .ok (.iconst 0, 1) := by decide +kernel
theorem dX0_freeExtents_12 : decode cX0_freeExtents 12 = .ok (.istore_n 3, 1) := by decide +kernel
theorem dX0_freeExtents_13 : decode cX0_freeExtents 13 = .ok (.iload_n 3, 1) := by decide +kernel
theorem dX0_freeExtents_14 : decode cX0_freeExtents 14 = .ok (.sipush 256, 3) := by decide +kernel
theorem dX0_freeExtents_17 : decode cX0_freeExtents 17 = .ok (.if_icmp .ge 24, 3) := by decide +kernel
theorem dX0_freeExtents_20 : decode cX0_freeExtents 20 = .ok (.aload_n 0, 1) := by decide +kernel
theorem dX0_freeExtents_21 : decode cX0_freeExtents 21 = .ok (.iload_n 3, 1) := by decide +kernel
theorem dX0_freeExtents_22 : decode cX0_freeExtents 22 = .ok (.iload_n 1, 1) := by decide +kernel
theorem dX0_freeExtents_23 : decode cX0_freeExtents 23 = .ok (.invokevirtual 113, 3) := by decide +kernel
theorem dX0_freeExtents_26 : decode cX0_freeExtents 26 = .ok (.ifCond .eq 6, 3) := by decide +kernel
theorem dX0_freeExtents_29 : decode cX0_freeExtents 29 = .ok (.iinc 2 1, 3) := by decide +kernel
theorem dX0_freeExtents_32 : decode cX0_freeExtents 32 = .ok (.iload_n 3, 1) := by decide +kernel
theorem dX0_freeExtents_33 : decode cX0_freeExtents 33 = .ok (.iconst 1, 1) := by decide +kernel
theorem dX0_freeExtents_34 : decode cX0_freeExtents 34 = .ok (.iload_n 1, 1) := by decide +kernel
theorem dX0_freeExtents_35 : decode cX0_freeExtents 35 = .ok (.ishl, 1) := by decide +kernel
theorem dX0_freeExtents_36 : decode cX0_freeExtents 36 = .ok (.iadd, 1) := by decide +kernel
theorem dX0_freeExtents_37 : decode cX0_freeExtents 37 = .ok (.istore_n 3, 1) := by decide +kernel
theorem dX0_freeExtents_38 : decode cX0_freeExtents 38 = .ok (.goto (-25), 3) := by decide +kernel
theorem dX0_freeExtents_41 : decode cX0_freeExtents 41 = .ok (.iload_n 2, 1) := by decide +kernel
theorem dX0_freeExtents_42 : decode cX0_freeExtents 42 = .ok (.ireturn, 1) := by decide +kernel
set_option maxRecDepth 20000 in
theorem ggX0_extentFor_X2_isOrder : GoodIn wsX0_extentFor wsX2_isOrder := goodIn_r _ [3] (by decide +kernel) (by decide +kernel)
set_option maxRecDepth 20000 in
theorem gX0_extentFor_X2_isOrder_n110 : GoodIn wsX0_extentFor (wsX2_isOrder) := ggX0_extentFor_X2_isOrder
set_option maxRecDepth 20000 in
theorem ggX0_extentFor_X0_isFreeExtent : GoodIn wsX0_extentFor wsX0_isFreeExtent := goodIn_r _ [8, 9, 10, 11, 7, 12, 1, 2, 3, 13, 14, 15, 16, 17, 18, 19, 20, 21, 22, 23, 24] (by decide +kernel) (by decide +kernel)
set_option maxRecDepth 20000 in
theorem gX0_extentFor_X0_isFreeExtent : GoodIn wsX0_extentFor (wsV RX0 113 RX0 yX0_isFreeExtent wsX0_isFreeExtent) := goodIn_app (goodIn_of _ (by decide +kernel)) ggX0_extentFor_X0_isFreeExtent
theorem dX0_extentFor_0 : decode cX0_extentFor 0 = .ok (.iload_n 1, 1) := by decide +kernel
theorem dX0_extentFor_1 : decode cX0_extentFor 1 = .ok (.invokestatic 110, 3) := by decide +kernel
theorem dX0_extentFor_4 : decode cX0_extentFor 4 = .ok (.ifCond .ne 5, 3) := by decide +kernel
theorem dX0_extentFor_7 : decode cX0_extentFor 7 = .ok (.iconst (-1), 1) := by decide +kernel
theorem dX0_extentFor_8 : decode cX0_extentFor 8 = .ok (.ireturn, 1) := by decide +kernel
theorem dX0_extentFor_9 : decode cX0_extentFor 9 = .ok (.iload_n 1, 1) := by decide +kernel
theorem dX0_extentFor_10 : decode cX0_extentFor 10 = .ok (.istore_n 2, 1) := by decide +kernel
theorem dX0_extentFor_11 : decode cX0_extentFor 11 = .ok (.iload_n 2, 1) := by decide +kernel
theorem dX0_extentFor_12 : decode cX0_extentFor 12 = .ok (.bipush 8, 2) := by decide +kernel
theorem dX0_extentFor_14 : decode cX0_extentFor 14 = .ok (.if_icmp .gt 38, 3) := by decide +kernel
theorem dX0_extentFor_17 : decode cX0_extentFor 17 = .ok (.iconst 0, 1) := by decide +kernel
theorem dX0_extentFor_18 : decode cX0_extentFor 18 = .ok (.istore_n 3, 1) := by decide +kernel
theorem dX0_extentFor_19 : decode cX0_extentFor 19 = .ok (.iload_n 3, 1) := by decide +kernel
theorem dX0_extentFor_20 : decode cX0_extentFor 20 = .ok (.sipush 256, 3) := by decide +kernel
theorem dX0_extentFor_23 : decode cX0_extentFor 23 = .ok (.if_icmp .ge 23, 3) := by decide +kernel
theorem dX0_extentFor_26 : decode cX0_extentFor 26 = .ok (.aload_n 0, 1) := by decide +kernel
theorem dX0_extentFor_27 : decode cX0_extentFor 27 = .ok (.iload_n 3, 1) := by decide +kernel
theorem dX0_extentFor_28 : decode cX0_extentFor 28 = .ok (.iload_n 2, 1) := by decide +kernel
theorem dX0_extentFor_29 : decode cX0_extentFor 29 = .ok (.invokevirtual 113, 3) := by decide +kernel
theorem dX0_extentFor_32 : decode cX0_extentFor 32 = .ok (.ifCond .eq 5, 3) := by decide +kernel
theorem dX0_extentFor_35 : decode cX0_extentFor 35 = .ok (.iload_n 3, 1) := by decide +kernel
theorem dX0_extentFor_36 : decode cX0_extentFor 36 = .ok (.ireturn, 1) := by decide +kernel
theorem dX0_extentFor_37 : decode cX0_extentFor 37 = .ok (.iload_n 3, 1) := by decide +kernel
theorem dX0_extentFor_38 : decode cX0_extentFor 38 = .ok (.iconst 1, 1) := by decide +kernel
theorem dX0_extentFor_39 : decode cX0_extentFor 39 = .ok (.iload_n 2, 1) := by decide +kernel
theorem dX0_extentFor_40 : decode cX0_extentFor 40 = .ok (.ishl, 1) := by decide +kernel
theorem dX0_extentFor_41 : decode cX0_extentFor 41 = .ok (.iadd, 1) := by decide +kernel
theorem dX0_extentFor_42 : decode cX0_extentFor 42 = .ok (.istore_n 3, 1) := by decide +kernel
theorem dX0_extentFor_43 : decode cX0_extentFor 43 = .ok (.goto (-24), 3) := by decide +kernel
theorem dX0_extentFor_46 : decode cX0_extentFor 46 = .ok (.iinc 2 1, 3) := by decide +kernel
theorem dX0_extentFor_49 : decode cX0_extentFor 49 = .ok (.goto (-38), 3) := by decide +kernel
theorem dX0_extentFor_52 : decode cX0_extentFor 52 = .ok (.iconst (-1), 1) := by decide +kernel
theorem dX0_extentFor_53 : decode cX0_extentFor 53 = .ok (.ireturn, 1) := by decide +kernel
theorem dX0_pageOf_0 : decode cX0_pageOf 0 = .ok (.iload_n 0, 1) := by decide +kernel
theorem dX0_pageOf_1 : decode cX0_pageOf 1 = .ok (.ifCond .lt 17, 3) := by decide +kernel
theorem dX0_pageOf_4 : decode cX0_pageOf 4 = .ok (.iload_n 0, 1) := by decide +kernel
theorem dX0_pageOf_5 : decode cX0_pageOf 5 = .ok (.sipush 4096, 3) := by decide +kernel
theorem dX0_pageOf_8 : decode cX0_pageOf 8 = .ok (.if_icmp .ge 10, 3) := by decide +kernel
theorem dX0_pageOf_11 : decode cX0_pageOf 11 = .ok (.iload_n 0, 1) := by decide +kernel
theorem dX0_pageOf_12 : decode cX0_pageOf 12 = .ok (.bipush 16, 2) := by decide +kernel
theorem dX0_pageOf_14 : decode cX0_pageOf 14 = .ok (.idiv, 1) := by decide +kernel
theorem dX0_pageOf_15 : decode cX0_pageOf 15 = .ok (.goto 4, 3) := by decide +kernel
theorem dX0_pageOf_18 : decode cX0_pageOf 18 = .ok (.iconst (-1), 1) := by decide +kernel
theorem dX0_pageOf_19 : decode cX0_pageOf 19 = .ok (.ireturn, 1) := by decide +kernel
set_option maxRecDepth 20000 in
theorem ggX0_alignedTo_X2_isOrder : GoodIn wsX0_alignedTo wsX2_isOrder := goodIn_r _ [3] (by decide +kernel) (by decide +kernel)
set_option maxRecDepth 20000 in
theorem gX0_alignedTo_X2_isOrder_n110 : GoodIn wsX0_alignedTo (wsX2_isOrder) := ggX0_alignedTo_X2_isOrder
theorem dX0_alignedTo_0 : decode cX0_alignedTo 0 = .ok (.iload_n 1, 1) := by decide +kernel
theorem dX0_alignedTo_1 : decode cX0_alignedTo 1 = .ok (.invokestatic 110, 3) := by decide +kernel
theorem dX0_alignedTo_4 : decode cX0_alignedTo 4 = .ok (.ifCond .eq 11, 3) := by decide +kernel
theorem dX0_alignedTo_7 : decode cX0_alignedTo 7 = .ok (.iload_n 0, 1) := by decide +kernel
theorem dX0_alignedTo_8 : decode cX0_alignedTo 8 = .ok (.iload_n 1, 1) := by decide +kernel
theorem dX0_alignedTo_9 : decode cX0_alignedTo 9 = .ok (.ishr, 1) := by decide +kernel
theorem dX0_alignedTo_10 : decode cX0_alignedTo 10 = .ok (.iload_n 1, 1) := by decide +kernel
theorem dX0_alignedTo_11 : decode cX0_alignedTo 11 = .ok (.ishl, 1) := by decide +kernel
theorem dX0_alignedTo_12 : decode cX0_alignedTo 12 = .ok (.goto 4, 3) := by decide +kernel
theorem dX0_alignedTo_15 : decode cX0_alignedTo 15 = .ok (.iload_n 0, 1) := by decide +kernel
theorem dX0_alignedTo_16 : decode cX0_alignedTo 16 = .ok (.ireturn, 1) := by decide +kernel
theorem dX0_slotBy_0 : decode cX0_slotBy 0 = .ok (.iload_n 0, 1) := by decide +kernel
theorem dX0_slotBy_1 : decode cX0_slotBy 1 = .ok (.ifCond .le 13, 3) := by decide +kernel
theorem dX0_slotBy_4 : decode cX0_slotBy 4 = .ok (.iload_n 1, 1) := by decide +kernel
theorem dX0_slotBy_5 : decode cX0_slotBy 5 = .ok (.ifCond .lt 9, 3) := by decide +kernel
theorem dX0_slotBy_8 : decode cX0_slotBy 8 = .ok (.iload_n 1, 1) := by decide +kernel
theorem dX0_slotBy_9 : decode cX0_slotBy 9 = .ok (.iload_n 0, 1) := by decide +kernel
theorem dX0_slotBy_10 : decode cX0_slotBy 10 = .ok (.irem, 1) := by decide +kernel
theorem dX0_slotBy_11 : decode cX0_slotBy 11 = .ok (.ifCond .eq 5, 3) := by decide +kernel
theorem dX0_slotBy_14 : decode cX0_slotBy 14 = .ok (.iconst (-1), 1) := by decide +kernel
theorem dX0_slotBy_15 : decode cX0_slotBy 15 = .ok (.ireturn, 1) := by decide +kernel
theorem dX0_slotBy_16 : decode cX0_slotBy 16 = .ok (.iload_n 1, 1) := by decide +kernel
theorem dX0_slotBy_17 : decode cX0_slotBy 17 = .ok (.iload_n 0, 1) := by decide +kernel
theorem dX0_slotBy_18 : decode cX0_slotBy 18 = .ok (.idiv, 1) := by decide +kernel
theorem dX0_slotBy_19 : decode cX0_slotBy 19 = .ok (.istore_n 2, 1) := by decide +kernel
theorem dX0_slotBy_20 : decode cX0_slotBy 20 = .ok (.iload_n 2, 1) := by decide +kernel
theorem dX0_slotBy_21 : decode cX0_slotBy 21 = .ok (.bipush 16, 2) := by decide +kernel
theorem dX0_slotBy_23 : decode cX0_slotBy 23 = .ok (.iload_n 0, 1) := by decide +kernel
theorem dX0_slotBy_24 : decode cX0_slotBy 24 = .ok (.idiv, 1) := by decide +kernel
theorem dX0_slotBy_25 : decode cX0_slotBy 25 = .ok (.if_icmp .ge 7, 3) := by decide +kernel
theorem dX0_slotBy_28 : decode cX0_slotBy 28 = .ok (.iload_n 2, 1) := by decide +kernel
theorem dX0_slotBy_29 : decode cX0_slotBy 29 = .ok (.goto 4, 3) := by decide +kernel
theorem dX0_slotBy_32 : decode cX0_slotBy 32 = .ok (.iconst (-1), 1) := by decide +kernel
theorem dX0_slotBy_33 : decode cX0_slotBy 33 = .ok (.ireturn, 1) := by decide +kernel
theorem dX0_stepOf_0 : decode cX0_stepOf 0 = .ok (.iload_n 1, 1) := by decide +kernel
theorem dX0_stepOf_1 : decode cX0_stepOf 1 = .ok (.ifCond .lt 10, 3) := by decide +kernel
theorem dX0_stepOf_4 : decode cX0_stepOf 4 = .ok (.iload_n 1, 1) := by decide +kernel
theorem dX0_stepOf_5 : decode cX0_stepOf 5 = .ok (.sipush 256, 3) := by decide +kernel
theorem dX0_stepOf_8 : decode cX0_stepOf 8 = .ok (.if_icmp .lt 5, 3) := by decide +kernel
theorem dX0_stepOf_11 : decode cX0_stepOf 11 = .ok (.iconst 0, 1) := by decide +kernel
theorem dX0_stepOf_12 : decode cX0_stepOf 12 = .ok (.ireturn, 1) := by decide +kernel
theorem dX0_stepOf_13 : decode cX0_stepOf 13 = .ok (.aload_n 0, 1) := by decide +kernel
theorem dX0_stepOf_14 : decode cX0_stepOf 14 = .ok (.getfield 9, 3) := by decide +kernel
theorem dX0_stepOf_17 : decode cX0_stepOf 17 = .ok (.iload_n 1, 1) := by decide +kernel
theorem dX0_stepOf_18 : decode cX0_stepOf 18 = .ok (.iaload, 1) := by decide +kernel
theorem dX0_stepOf_19 : decode cX0_stepOf 19 = .ok (.iconst 1, 1) := by decide +kernel
theorem dX0_stepOf_20 : decode cX0_stepOf 20 = .ok (.if_icmp .ne 12, 3) := by decide +kernel
theorem dX0_stepOf_23 : decode cX0_stepOf 23 = .ok (.aload_n 0, 1) := by decide +kernel
theorem dX0_stepOf_24 : decode cX0_stepOf 24 = .ok (.getfield 15, 3) := by decide +kernel
theorem dX0_stepOf_27 : decode cX0_stepOf 27 = .ok (.iload_n 1, 1) := by decide +kernel
theorem dX0_stepOf_28 : decode cX0_stepOf 28 = .ok (.iaload, 1) := by decide +kernel
theorem dX0_stepOf_29 : decode cX0_stepOf 29 = .ok (.goto 19, 3) := by decide +kernel
theorem dX0_stepOf_32 : decode cX0_stepOf 32 = .ok (.aload_n 0, 1) := by decide +kernel
theorem dX0_stepOf_33 : decode cX0_stepOf 33 = .ok (.getfield 9, 3) := by decide +kernel
theorem dX0_stepOf_36 : decode cX0_stepOf 36 = .ok (.iload_n 1, 1) := by decide +kernel
theorem dX0_stepOf_37 : decode cX0_stepOf 37 = .ok (.iaload, 1) := by decide +kernel
theorem dX0_stepOf_38 : decode cX0_stepOf 38 = .ok (.iconst 2, 1) := by decide +kernel
theorem dX0_stepOf_39 : decode cX0_stepOf 39 = .ok (.if_icmp .ne 8, 3) := by decide +kernel
theorem dX0_stepOf_42 : decode cX0_stepOf 42 = .ok (.bipush 16, 2) := by decide +kernel
theorem dX0_stepOf_44 : decode cX0_stepOf 44 = .ok (.goto 4, 3) := by decide +kernel
theorem dX0_stepOf_47 : decode cX0_stepOf 47 = .ok (.iconst 0, 1) := by decide +kernel
theorem dX0_stepOf_48 : decode cX0_stepOf 48 = .ok (.ireturn, 1) := by decide +kernel
set_option maxRecDepth 20000 in
theorem ggX0_slotAt_X0_pageOf : GoodIn wsX0_slotAt wsX0_pageOf := goodIn_r _ [4] (by decide +kernel) (by decide +kernel)
set_option maxRecDepth 20000 in
theorem gX0_slotAt_X0_pageOf : GoodIn wsX0_slotAt (va_wsS RX0 60 yX0_pageOf wsX0_pageOf) := goodIn_app (goodIn_of _ (by decide +kernel)) ggX0_slotAt_X0_pageOf
set_option maxRecDepth 20000 in
theorem ggX0_slotAt_X0_stepOf : GoodIn wsX0_slotAt wsX0_stepOf := goodIn_r _ [8, 9, 10, 14, 15, 16, 17] (by decide +kernel) (by decide +kernel)
set_option maxRecDepth 20000 in
theorem gX0_slotAt_X0_stepOf : GoodIn wsX0_slotAt (wsV RX0 53 RX0 yX0_stepOf wsX0_stepOf) := goodIn_app (goodIn_of _ (by decide +kernel)) ggX0_slotAt_X0_stepOf
set_option maxRecDepth 20000 in
theorem ggX0_slotAt_X0_slotBy : GoodIn wsX0_slotAt wsX0_slotBy := goodIn_r _ [13] (by decide +kernel) (by decide +kernel)
set_option maxRecDepth 20000 in
theorem gX0_slotAt_X0_slotBy : GoodIn wsX0_slotAt (va_wsS RX0 81 yX0_slotBy wsX0_slotBy) := goodIn_app (goodIn_of _ (by decide +kernel)) ggX0_slotAt_X0_slotBy
theorem dX0_slotAt_0 : decode cX0_slotAt 0 = .ok (.aload_n 0, 1) := by decide +kernel
theorem dX0_slotAt_1 : decode cX0_slotAt 1 = .ok (.iload_n 1, 1) := by decide +kernel
theorem dX0_slotAt_2 : decode cX0_slotAt 2 = .ok (.invokestatic 60, 3) := by decide +kernel
theorem dX0_slotAt_5 : decode cX0_slotAt 5 = .ok (.invokevirtual 53, 3) := by decide +kernel
theorem dX0_slotAt_8 : decode cX0_slotAt 8 = .ok (.iload_n 1, 1) := by decide +kernel
theorem dX0_slotAt_9 : decode cX0_slotAt 9 = .ok (.bipush 16, 2) := by decide +kernel
theorem dX0_slotAt_11 : decode cX0_slotAt 11 = .ok (.irem, 1) := by decide +kernel
theorem dX0_slotAt_12 : decode cX0_slotAt 12 = .ok (.invokestatic 81, 3) := by decide +kernel
theorem dX0_slotAt_15 : decode cX0_slotAt 15 = .ok (.ireturn, 1) := by decide +kernel
theorem dX0_isTaken_0 : decode cX0_isTaken 0 = .ok (.iload_n 1, 1) := by decide +kernel
theorem dX0_isTaken_1 : decode cX0_isTaken 1 = .ok (.ifCond .lt 32, 3) := by decide +kernel
theorem dX0_isTaken_4 : decode cX0_isTaken 4 = .ok (.iload_n 1, 1) := by decide +kernel
theorem dX0_isTaken_5 : decode cX0_isTaken 5 = .ok (.sipush 256, 3) := by decide +kernel
theorem dX0_isTaken_8 : decode cX0_isTaken 8 = .ok (.if_icmp .ge 25, 3) := by decide +kernel
theorem dX0_isTaken_11 : decode cX0_isTaken 11 = .ok (.iload_n 2, 1) := by decide +kernel
theorem dX0_isTaken_12 : decode cX0_isTaken 12 = .ok (.ifCond .lt 21, 3) := by decide +kernel
theorem dX0_isTaken_15 : decode cX0_isTaken 15 = .ok (.aload_n 0, 1) := by decide +kernel
theorem dX0_isTaken_16 : decode cX0_isTaken 16 = .ok (.getfield 18, 3) := by decide +kernel
theorem dX0_isTaken_19 : decode cX0_isTaken 19 = .ok (.iload_n 1, 1) := by decide +kernel
theorem dX0_isTaken_20 : decode cX0_isTaken 20 = .ok (.iaload, 1) := by decide +kernel
theorem dX0_isTaken_21 : decode cX0_isTaken 21 = .ok (.iload_n 2, 1) := by decide +kernel
theorem dX0_isTaken_22 : decode cX0_isTaken 22 = .ok (.iushr, 1) := by decide +kernel
theorem dX0_isTaken_23 : decode cX0_isTaken 23 = .ok (.iconst 1, 1) := by decide +kernel
theorem dX0_isTaken_24 : decode cX0_isTaken 24 = .ok (.iand, 1) := by decide +kernel
theorem dX0_isTaken_25 : decode cX0_isTaken 25 = .ok (.iconst 1, 1) := by decide +kernel
theorem dX0_isTaken_26 : decode cX0_isTaken 26 = .ok (.if_icmp .ne 7, 3) := by decide +kernel
theorem dX0_isTaken_29 : decode cX0_isTaken 29 = .ok (.iconst 1, 1) := by decide +kernel
theorem dX0_isTaken_30 : decode cX0_isTaken 30 = .ok (.goto 4, 3) := by decide +kernel
theorem dX0_isTaken_33 : decode cX0_isTaken 33 = .ok (.iconst 0, 1) := by decide +kernel
theorem dX0_isTaken_34 : decode cX0_isTaken 34 = .ok (.ireturn, 1) := by decide +kernel
set_option maxRecDepth 20000 in
theorem ggX0_isSlabOf_X2_isPage : GoodIn wsX0_isSlabOf wsX2_isPage := goodIn_r _ [5] (by decide +kernel) (by decide +kernel)
set_option maxRecDepth 20000 in
theorem gX0_isSlabOf_X2_isPage_n30 : GoodIn wsX0_isSlabOf (wsX2_isPage) := ggX0_isSlabOf_X2_isPage
theorem dX0_isSlabOf_0 : decode cX0_isSlabOf 0 = .ok (.iload_n 1, 1) := by decide +kernel
theorem dX0_isSlabOf_1 : decode cX0_isSlabOf 1 = .ok (.invokestatic 30, 3) := by decide +kernel
theorem dX0_isSlabOf_4 : decode cX0_isSlabOf 4 = .ok (.ifCond .eq 27, 3) := by decide +kernel
theorem dX0_isSlabOf_7 : decode cX0_isSlabOf 7 = .ok (.aload_n 0, 1) := by decide +kernel
theorem dX0_isSlabOf_8 : decode cX0_isSlabOf 8 = .ok (.getfield 9, 3) := by decide +kernel
theorem dX0_isSlabOf_11 : decode cX0_isSlabOf 11 = .ok (.iload_n 1, 1) := by decide +kernel
theorem dX0_isSlabOf_12 : decode cX0_isSlabOf 12 = .ok (.iaload, 1) := by decide +kernel
theorem dX0_isSlabOf_13 : decode cX0_isSlabOf 13 = .ok (.iconst 1, 1) := by decide +kernel
theorem dX0_isSlabOf_14 : decode cX0_isSlabOf 14 = .ok (.if_icmp .ne 17, 3) := by decide +kernel
theorem dX0_isSlabOf_17 : decode cX0_isSlabOf 17 = .ok (.aload_n 0, 1) := by decide +kernel
theorem dX0_isSlabOf_18 : decode cX0_isSlabOf 18 = .ok (.getfield 15, 3) := by decide +kernel
theorem dX0_isSlabOf_21 : decode cX0_isSlabOf 21 = .ok (.iload_n 1, 1) := by decide +kernel
theorem dX0_isSlabOf_22 : decode cX0_isSlabOf 22 = .ok (.iaload, 1) := by decide +kernel
theorem dX0_isSlabOf_23 : decode cX0_isSlabOf 23 = .ok (.iload_n 2, 1) := by decide +kernel
theorem dX0_isSlabOf_24 : decode cX0_isSlabOf 24 = .ok (.if_icmp .ne 7, 3) := by decide +kernel
theorem dX0_isSlabOf_27 : decode cX0_isSlabOf 27 = .ok (.iconst 1, 1) := by decide +kernel
theorem dX0_isSlabOf_28 : decode cX0_isSlabOf 28 = .ok (.goto 4, 3) := by decide +kernel
theorem dX0_isSlabOf_31 : decode cX0_isSlabOf 31 = .ok (.iconst 0, 1) := by decide +kernel
theorem dX0_isSlabOf_32 : decode cX0_isSlabOf 32 = .ok (.ireturn, 1) := by decide +kernel
set_option maxRecDepth 20000 in
theorem ggX0_emptySlot_X0_isSlabOf : GoodIn wsX0_emptySlot wsX0_isSlabOf := goodIn_r _ [5, 6, 7, 8, 9, 10, 24, 25, 26, 27] (by decide +kernel) (by decide +kernel)
set_option maxRecDepth 20000 in
theorem gX0_emptySlot_X0_isSlabOf : GoodIn wsX0_emptySlot (wsV RX0 84 RX0 yX0_isSlabOf wsX0_isSlabOf) := goodIn_app (goodIn_of _ (by decide +kernel)) ggX0_emptySlot_X0_isSlabOf
set_option maxRecDepth 20000 in
theorem ggX0_emptySlot_X0_slotsOf : GoodIn wsX0_emptySlot wsX0_slotsOf := goodIn_r _ [14, 15, 16, 17, 4, 18, 6, 7, 24, 25, 26, 27] (by decide +kernel) (by decide +kernel)
set_option maxRecDepth 20000 in
theorem gX0_emptySlot_X0_slotsOf : GoodIn wsX0_emptySlot (wsV RX0 104 RX0 yX0_slotsOf wsX0_slotsOf) := goodIn_app (goodIn_of _ (by decide +kernel)) ggX0_emptySlot_X0_slotsOf
set_option maxRecDepth 20000 in
theorem ggX0_emptySlot_X0_isTaken : GoodIn wsX0_emptySlot wsX0_isTaken := goodIn_r _ [22, 23, 24, 25, 26, 27] (by decide +kernel) (by decide +kernel)
set_option maxRecDepth 20000 in
theorem gX0_emptySlot_X0_isTaken : GoodIn wsX0_emptySlot (wsV RX0 56 RX0 yX0_isTaken wsX0_isTaken) := goodIn_app (goodIn_of _ (by decide +kernel)) ggX0_emptySlot_X0_isTaken
theorem dX0_emptySlot_0 : decode cX0_emptySlot 0 = .ok (.iconst 1, 1) := by decide +kernel
theorem dX0_emptySlot_1 : decode cX0_emptySlot 1 = .ok (.istore_n 2, 1) := by decide +kernel
theorem dX0_emptySlot_2 : decode cX0_emptySlot 2 = .ok (.iload_n 2, 1) := by decide +kernel
theorem dX0_emptySlot_3 : decode cX0_emptySlot 3 = .ok (.sipush 256, 3) := by decide +kernel
theorem dX0_emptySlot_6 : decode cX0_emptySlot 6 = .ok (.if_icmp .ge 62, 3) := by decide +kernel
theorem dX0_emptySlot_9 : decode cX0_emptySlot 9 = .ok (.aload_n 0, 1) := by decide +kernel
theorem dX0_emptySlot_10 : decode cX0_emptySlot 10 = .ok (.iload_n 2, 1) := by decide +kernel
theorem dX0_emptySlot_11 : decode cX0_emptySlot 11 = .ok (.iload_n 1, 1) := by decide +kernel
theorem dX0_emptySlot_12 : decode cX0_emptySlot 12 = .ok (.invokevirtual 84, 3) := by decide +kernel
theorem dX0_emptySlot_15 : decode cX0_emptySlot 15 = .ok (.ifCond .ne 6, 3) := by decide +kernel
theorem dX0_emptySlot_18 : decode cX0_emptySlot 18 = .ok (.goto 44, 3) := by decide +kernel
theorem dX0_emptySlot_21 : decode cX0_emptySlot 21 = .ok (.aload_n 0, 1) := by decide +kernel
theorem dX0_emptySlot_22 : decode cX0_emptySlot 22 = .ok (.iload_n 2, 1) := by decide +kernel
theorem dX0_emptySlot_23 : decode cX0_emptySlot 23 = .ok (.invokevirtual 104, 3) := by decide +kernel
theorem dX0_emptySlot_26 : decode cX0_emptySlot 26 = .ok (.istore_n 3, 1) := by decide +kernel
theorem dX0_emptySlot_27 : decode cX0_emptySlot 27 = .ok (.iconst 0, 1) := by decide +kernel
theorem dX0_emptySlot_28 : decode cX0_emptySlot 28 = .ok (.istore 4, 2) := by decide +kernel
theorem dX0_emptySlot_30 : decode cX0_emptySlot 30 = .ok (.iload 4, 2) := by decide +kernel
theorem dX0_emptySlot_32 : decode cX0_emptySlot 32 = .ok (.iload_n 3, 1) := by decide +kernel
theorem dX0_emptySlot_33 : decode cX0_emptySlot 33 = .ok (.if_icmp .ge 29, 3) := by decide +kernel
theorem dX0_emptySlot_36 : decode cX0_emptySlot 36 = .ok (.aload_n 0, 1) := by decide +kernel
theorem dX0_emptySlot_37 : decode cX0_emptySlot 37 = .ok (.iload_n 2, 1) := by decide +kernel
theorem dX0_emptySlot_38 : decode cX0_emptySlot 38 = .ok (.iload 4, 2) := by decide +kernel
theorem dX0_emptySlot_40 : decode cX0_emptySlot 40 = .ok (.invokevirtual 56, 3) := by decide +kernel
theorem dX0_emptySlot_43 : decode cX0_emptySlot 43 = .ok (.ifCond .ne 13, 3) := by decide +kernel
theorem dX0_emptySlot_46 : decode cX0_emptySlot 46 = .ok (.iload_n 2, 1) := by decide +kernel
theorem dX0_emptySlot_47 : decode cX0_emptySlot 47 = .ok (.bipush 16, 2) := by decide +kernel
theorem dX0_emptySlot_49 : decode cX0_emptySlot 49 = .ok (.imul, 1) := by decide +kernel
theorem dX0_emptySlot_50 : decode cX0_emptySlot 50 = .ok (.iload 4, 2) := by decide +kernel
theorem dX0_emptySlot_52 : decode cX0_emptySlot 52 = .ok (.iload_n 1, 1) := by decide +kernel
theorem dX0_emptySlot_53 : decode cX0_emptySlot 53 = .ok (.imul, 1) := by decide +kernel
theorem dX0_emptySlot_54 : decode cX0_emptySlot 54 = .ok (.iadd, 1) := by decide +kernel
theorem dX0_emptySlot_55 : decode cX0_emptySlot 55 = .ok (.ireturn, 1) := by decide +kernel
theorem dX0_emptySlot_56 : decode cX0_emptySlot 56 = .ok (.iinc 4 1, 3) := by decide +kernel
theorem dX0_emptySlot_59 : decode cX0_emptySlot 59 = .ok (.goto (-29), 3) := by decide +kernel
theorem dX0_emptySlot_62 : decode cX0_emptySlot 62 = .ok (.iinc 2 1, 3) := by decide +kernel
theorem dX0_emptySlot_65 : decode cX0_emptySlot 65 = .ok (.goto (-63), 3) := by decide +kernel
theorem dX0_emptySlot_68 : decode cX0_emptySlot 68 = .ok (.iconst (-1), 1) := by decide +kernel
theorem dX0_emptySlot_69 : decode cX0_emptySlot 69 = .ok (.ireturn, 1) := by decide +kernel
set_option maxRecDepth 20000 in
theorem ggX0_lay_X2_isPage : GoodIn wsX0_lay wsX2_isPage := goodIn_r _ [5] (by decide +kernel) (by decide +kernel)
set_option maxRecDepth 20000 in
theorem gX0_lay_X2_isPage_n30 : GoodIn wsX0_lay (wsX2_isPage) := ggX0_lay_X2_isPage
theorem dX0_lay_0 : decode cX0_lay 0 = .ok (.iload_n 1, 1) := by decide +kernel
theorem dX0_lay_1 : decode cX0_lay 1 = .ok (.invokestatic 30, 3) := by decide +kernel
theorem dX0_lay_4 : decode cX0_lay 4 = .ok (.ifCond .eq 17, 3) := by decide +kernel
theorem dX0_lay_7 : decode cX0_lay 7 = .ok (.aload_n 0, 1) := by decide +kernel
theorem dX0_lay_8 : decode cX0_lay 8 = .ok (.getfield 9, 3) := by decide +kernel
theorem dX0_lay_11 : decode cX0_lay 11 = .ok (.iload_n 1, 1) := by decide +kernel
theorem dX0_lay_12 : decode cX0_lay 12 = .ok (.iload_n 2, 1) := by decide +kernel
theorem dX0_lay_13 : decode cX0_lay 13 = .ok (.iastore, 1) := by decide +kernel
theorem dX0_lay_14 : decode cX0_lay 14 = .ok (.aload_n 0, 1) := by decide +kernel
theorem dX0_lay_15 : decode cX0_lay 15 = .ok (.getfield 15, 3) := by decide +kernel
theorem dX0_lay_18 : decode cX0_lay 18 = .ok (.iload_n 1, 1) := by decide +kernel
theorem dX0_lay_19 : decode cX0_lay 19 = .ok (.iload_n 3, 1) := by decide +kernel
theorem dX0_lay_20 : decode cX0_lay 20 = .ok (.iastore, 1) := by decide +kernel
theorem dX0_lay_21 : decode cX0_lay 21 = .ok (.return_, 1) := by decide +kernel
set_option maxRecDepth 20000 in
theorem ggX0_layExtent_X2_isOrder : GoodIn wsX0_layExtent wsX2_isOrder := goodIn_r _ [3] (by decide +kernel) (by decide +kernel)
set_option maxRecDepth 20000 in
theorem gX0_layExtent_X2_isOrder_n110 : GoodIn wsX0_layExtent (wsX2_isOrder) := ggX0_layExtent_X2_isOrder
set_option maxRecDepth 20000 in
theorem ggX0_layExtent_X0_lay : GoodIn wsX0_layExtent wsX0_lay := goodIn_r _ [8, 9, 10, 11, 2, 12, 13, 14, 15, 16] (by decide +kernel) (by decide +kernel)
set_option maxRecDepth 20000 in
theorem gX0_layExtent_X0_lay : GoodIn wsX0_layExtent (wsV RX0 90 RX0 yX0_lay wsX0_lay) := goodIn_app (goodIn_of _ (by decide +kernel)) ggX0_layExtent_X0_lay
theorem dX0_layExtent_0 : decode cX0_layExtent 0 = .ok (.iload_n 2, 1) := by decide +kernel
theorem dX0_layExtent_1 : decode cX0_layExtent 1 = .ok (.invokestatic 110, 3) := by decide +kernel
theorem dX0_layExtent_4 : decode cX0_layExtent 4 = .ok (.ifCond .ne 4, 3) := by decide +kernel
theorem dX0_layExtent_7 : decode cX0_layExtent 7 = .ok (.return_, 1) := by decide +kernel
theorem dX0_layExtent_8 : decode cX0_layExtent 8 = .ok (.aload_n 0, 1) := by decide +kernel
theorem dX0_layExtent_9 : decode cX0_layExtent 9 = .ok (.iload_n 1, 1) := by decide +kernel
theorem dX0_layExtent_10 : decode cX0_layExtent 10 = .ok (.iconst 2, 1) := by decide +kernel
theorem dX0_layExtent_11 : decode cX0_layExtent 11 = .ok (.iload_n 2, 1) := by decide +kernel
theorem dX0_layExtent_12 : decode cX0_layExtent 12 = .ok (.invokevirtual 90, 3) := by decide +kernel
theorem dX0_layExtent_15 : decode cX0_layExtent 15 = .ok (.iconst 1, 1) := by decide +kernel
theorem dX0_layExtent_16 : decode cX0_layExtent 16 = .ok (.iload_n 2, 1) := by decide +kernel
theorem dX0_layExtent_17 : decode cX0_layExtent 17 = .ok (.ishl, 1) := by decide +kernel
theorem dX0_layExtent_18 : decode cX0_layExtent 18 = .ok (.istore_n 3, 1) := by decide +kernel
theorem dX0_layExtent_19 : decode cX0_layExtent 19 = .ok (.iconst 1, 1) := by decide +kernel
theorem dX0_layExtent_20 : decode cX0_layExtent 20 = .ok (.istore 4, 2) := by decide +kernel
theorem dX0_layExtent_22 : decode cX0_layExtent 22 = .ok (.iload 4, 2) := by decide +kernel
theorem dX0_layExtent_24 : decode cX0_layExtent 24 = .ok (.iload_n 3, 1) := by decide +kernel
theorem dX0_layExtent_25 : decode cX0_layExtent 25 = .ok (.if_icmp .ge 19, 3) := by decide +kernel
theorem dX0_layExtent_28 : decode cX0_layExtent 28 = .ok (.aload_n 0, 1) := by decide +kernel
theorem dX0_layExtent_29 : decode cX0_layExtent 29 = .ok (.iload_n 1, 1) := by decide +kernel
theorem dX0_layExtent_30 : decode cX0_layExtent 30 = .ok (.iload 4, 2) := by decide +kernel
theorem dX0_layExtent_32 : decode cX0_layExtent 32 = .ok (.iadd, 1) := by decide +kernel
theorem dX0_layExtent_33 : decode cX0_layExtent 33 = .ok (.iconst 3, 1) := by decide +kernel
theorem dX0_layExtent_34 : decode cX0_layExtent 34 = .ok (.iload_n 2, 1) := by decide +kernel
theorem dX0_layExtent_35 : decode cX0_layExtent 35 = .ok (.invokevirtual 90, 3) := by decide +kernel
theorem dX0_layExtent_38 : decode cX0_layExtent 38 = .ok (.iinc 4 1, 3) := by decide +kernel
theorem dX0_layExtent_41 : decode cX0_layExtent 41 = .ok (.goto (-19), 3) := by decide +kernel
theorem dX0_layExtent_44 : decode cX0_layExtent 44 = .ok (.return_, 1) := by decide +kernel
set_option maxRecDepth 20000 in
theorem ggX0_isFreeRun_X2_isOrder : GoodIn wsX0_isFreeRun wsX2_isOrder := goodIn_r _ [3] (by decide +kernel) (by decide +kernel)
set_option maxRecDepth 20000 in
theorem gX0_isFreeRun_X2_isOrder_n110 : GoodIn wsX0_isFreeRun (wsX2_isOrder) := ggX0_isFreeRun_X2_isOrder
set_option maxRecDepth 20000 in
theorem ggX0_isFreeRun_X0_kindOf : GoodIn wsX0_isFreeRun wsX0_kindOf := goodIn_r _ [8, 9, 10, 11, 12, 13] (by decide +kernel) (by decide +kernel)
set_option maxRecDepth 20000 in
theorem gX0_isFreeRun_X0_kindOf : GoodIn wsX0_isFreeRun (wsV RX0 38 RX0 yX0_kindOf wsX0_kindOf) := goodIn_app (goodIn_of _ (by decide +kernel)) ggX0_isFreeRun_X0_kindOf
theorem dX0_isFreeRun_0 : decode cX0_isFreeRun 0 = .ok (.iload_n 2, 1) := by decide +kernel
theorem dX0_isFreeRun_1 : decode cX0_isFreeRun 1 = .ok (.invokestatic 110, 3) := by decide +kernel
theorem dX0_isFreeRun_4 : decode cX0_isFreeRun 4 = .ok (.ifCond .eq 18, 3) := by decide +kernel
theorem dX0_isFreeRun_7 : decode cX0_isFreeRun 7 = .ok (.iload_n 1, 1) := by decide +kernel
theorem dX0_isFreeRun_8 : decode cX0_isFreeRun 8 = .ok (.ifCond .lt 14, 3) := by decide +kernel
theorem dX0_isFreeRun_11 : decode cX0_isFreeRun 11 = .ok (.iload_n 1, 1) := by decide +kernel
theorem dX0_isFreeRun_12 : decode cX0_isFreeRun 12 = .ok (.iconst 1, 1) := by decide +kernel
theorem dX0_isFreeRun_13 : decode cX0_isFreeRun 13 = .ok (.iload_n 2, 1) := by decide +kernel
theorem dX0_isFreeRun_14 : decode cX0_isFreeRun 14 = .ok (.ishl, 1) := by decide +kernel
theorem dX0_isFreeRun_15 : decode cX0_isFreeRun 15 = .ok (.iadd, 1) := by decide +kernel
theorem dX0_isFreeRun_16 : decode cX0_isFreeRun 16 = .ok (.sipush 256, 3) := by decide +kernel
theorem dX0_isFreeRun_19 : decode cX0_isFreeRun 19 = .ok (.if_icmp .le 5, 3) := by decide +kernel
theorem dX0_isFreeRun_22 : decode cX0_isFreeRun 22 = .ok (.iconst 0, 1) := by decide +kernel
theorem dX0_isFreeRun_23 : decode cX0_isFreeRun 23 = .ok (.ireturn, 1) := by decide +kernel
theorem dX0_isFreeRun_24 : decode cX0_isFreeRun 24 = .ok (.iconst 1, 1) := by decide +kernel
theorem dX0_isFreeRun_25 : decode cX0_isFreeRun 25 = .ok (.iload_n 2, 1) := by decide +kernel
theorem dX0_isFreeRun_26 : decode cX0_isFreeRun 26 = .ok (.ishl, 1) := by decide +kernel
theorem dX0_isFreeRun_27 : decode cX0_isFreeRun 27 = .ok (.istore_n 3, 1) := by decide +kernel
theorem dX0_isFreeRun_28 : decode cX0_isFreeRun 28 = .ok (.iconst 0, 1) := by decide +kernel
theorem dX0_isFreeRun_29 : decode cX0_isFreeRun 29 = .ok (.istore 4, 2) := by decide +kernel
theorem dX0_isFreeRun_31 : decode cX0_isFreeRun 31 = .ok (.iload 4, 2) := by decide +kernel
theorem dX0_isFreeRun_33 : decode cX0_isFreeRun 33 = .ok (.iload_n 3, 1) := by decide +kernel
theorem dX0_isFreeRun_34 : decode cX0_isFreeRun 34 = .ok (.if_icmp .ge 22, 3) := by decide +kernel
theorem dX0_isFreeRun_37 : decode cX0_isFreeRun 37 = .ok (.aload_n 0, 1) := by decide +kernel
theorem dX0_isFreeRun_38 : decode cX0_isFreeRun 38 = .ok (.iload_n 1, 1) := by decide +kernel
theorem dX0_isFreeRun_39 : decode cX0_isFreeRun 39 = .ok (.iload 4, 2) := by decide +kernel
theorem dX0_isFreeRun_41 : decode cX0_isFreeRun 41 = .ok (.iadd, 1) := by decide +kernel
theorem dX0_isFreeRun_42 : decode cX0_isFreeRun 42 = .ok (.invokevirtual 38, 3) := by decide +kernel
theorem dX0_isFreeRun_45 : decode cX0_isFreeRun 45 = .ok (.ifCond .eq 5, 3) := by decide +kernel
theorem dX0_isFreeRun_48 : decode cX0_isFreeRun 48 = .ok (.iconst 0, 1) := by decide +kernel
theorem dX0_isFreeRun_49 : decode cX0_isFreeRun 49 = .ok (.ireturn, 1) := by decide +kernel
theorem dX0_isFreeRun_50 : decode cX0_isFreeRun 50 = .ok (.iinc 4 1, 3) := by decide +kernel
theorem dX0_isFreeRun_53 : decode cX0_isFreeRun 53 = .ok (.goto (-22), 3) := by decide +kernel
theorem dX0_isFreeRun_56 : decode cX0_isFreeRun 56 = .ok (.iconst 1, 1) := by decide +kernel
theorem dX0_isFreeRun_57 : decode cX0_isFreeRun 57 = .ok (.ireturn, 1) := by decide +kernel
set_option maxRecDepth 20000 in
theorem ggX0_isFreeExtent_X0_isFreeRun : GoodIn wsX0_isFreeExtent wsX0_isFreeRun := goodIn_r _ [5, 6, 7, 8, 9, 10, 11, 4, 12, 13, 17, 18, 19, 20] (by decide +kernel) (by decide +kernel)
set_option maxRecDepth 20000 in
theorem gX0_isFreeExtent_X0_isFreeRun : GoodIn wsX0_isFreeExtent (wsV RX0 87 RX0 yX0_isFreeRun wsX0_isFreeRun) := goodIn_app (goodIn_of _ (by decide +kernel)) ggX0_isFreeExtent_X0_isFreeRun
set_option maxRecDepth 20000 in
theorem ggX0_isFreeExtent_X0_alignedTo : GoodIn wsX0_isFreeExtent wsX0_alignedTo := goodIn_r _ [16, 6, 7, 8] (by decide +kernel) (by decide +kernel)
set_option maxRecDepth 20000 in
theorem gX0_isFreeExtent_X0_alignedTo : GoodIn wsX0_isFreeExtent (va_wsS RX0 44 yX0_alignedTo wsX0_alignedTo) := goodIn_app (goodIn_of _ (by decide +kernel)) ggX0_isFreeExtent_X0_alignedTo
theorem dX0_isFreeExtent_0 : decode cX0_isFreeExtent 0 = .ok (.aload_n 0, 1) := by decide +kernel
theorem dX0_isFreeExtent_1 : decode cX0_isFreeExtent 1 = .ok (.iload_n 1, 1) := by decide +kernel
theorem dX0_isFreeExtent_2 : decode cX0_isFreeExtent 2 = .ok (.iload_n 2, 1) := by decide +kernel
theorem dX0_isFreeExtent_3 : decode cX0_isFreeExtent 3 = .ok (.invokevirtual 87, 3) := by decide +kernel
theorem dX0_isFreeExtent_6 : decode cX0_isFreeExtent 6 = .ok (.ifCond .eq 24, 3) := by decide +kernel
theorem dX0_isFreeExtent_9 : decode cX0_isFreeExtent 9 = .ok (.aload_n 0, 1) := by decide +kernel
theorem dX0_isFreeExtent_10 : decode cX0_isFreeExtent 10 = .ok (.iload_n 1, 1) := by decide +kernel
theorem dX0_isFreeExtent_11 : decode cX0_isFreeExtent 11 = .ok (.iload_n 2, 1) := by decide +kernel
theorem dX0_isFreeExtent_12 : decode cX0_isFreeExtent 12 = .ok (.iconst 1, 1) := by decide +kernel
theorem dX0_isFreeExtent_13 : decode cX0_isFreeExtent 13 = .ok (.iadd, 1) := by decide +kernel
theorem dX0_isFreeExtent_14 : decode cX0_isFreeExtent 14 = .ok (.invokestatic 44, 3) := by decide +kernel
theorem dX0_isFreeExtent_17 : decode cX0_isFreeExtent 17 = .ok (.iload_n 2, 1) := by decide +kernel
theorem dX0_isFreeExtent_18 : decode cX0_isFreeExtent 18 = .ok (.iconst 1, 1) := by decide +kernel
theorem dX0_isFreeExtent_19 : decode cX0_isFreeExtent 19 = .ok (.iadd, 1) := by decide +kernel
theorem dX0_isFreeExtent_20 : decode cX0_isFreeExtent 20 = .ok (.invokevirtual 87, 3) := by decide +kernel
theorem dX0_isFreeExtent_23 : decode cX0_isFreeExtent 23 = .ok (.ifCond .ne 7, 3) := by decide +kernel
theorem dX0_isFreeExtent_26 : decode cX0_isFreeExtent 26 = .ok (.iconst 1, 1) := by decide +kernel
theorem dX0_isFreeExtent_27 : decode cX0_isFreeExtent 27 = .ok (.goto 4, 3) := by decide +kernel
theorem dX0_isFreeExtent_30 : decode cX0_isFreeExtent 30 = .ok (.iconst 0, 1) := by decide +kernel
theorem dX0_isFreeExtent_31 : decode cX0_isFreeExtent 31 = .ok (.ireturn, 1) := by decide +kernel
set_option maxRecDepth 20000 in
theorem ggX0_freeOrderAt_X0_alignedTo : GoodIn wsX0_freeOrderAt wsX0_alignedTo := goodIn_r _ [4, 5, 6, 7] (by decide +kernel) (by decide +kernel)
set_option maxRecDepth 20000 in
theorem gX0_freeOrderAt_X0_alignedTo : GoodIn wsX0_freeOrderAt (va_wsS RX0 44 yX0_alignedTo wsX0_alignedTo) := goodIn_app (goodIn_of _ (by decide +kernel)) ggX0_freeOrderAt_X0_alignedTo
set_option maxRecDepth 20000 in
theorem ggX0_freeOrderAt_X0_isFreeExtent : GoodIn wsX0_freeOrderAt wsX0_isFreeExtent := goodIn_r _ [11, 12, 13, 14, 3, 15, 5, 6, 7, 16, 17, 18, 19, 20, 1, 2, 4, 21, 22, 23, 24] (by decide +kernel) (by decide +kernel)
set_option maxRecDepth 20000 in
theorem gX0_freeOrderAt_X0_isFreeExtent : GoodIn wsX0_freeOrderAt (wsV RX0 113 RX0 yX0_isFreeExtent wsX0_isFreeExtent) := goodIn_app (goodIn_of _ (by decide +kernel)) ggX0_freeOrderAt_X0_isFreeExtent
theorem dX0_freeOrderAt_0 : decode cX0_freeOrderAt 0 = .ok (.iconst 0, 1) := by decide +kernel
theorem dX0_freeOrderAt_1 : decode cX0_freeOrderAt 1 = .ok (.istore_n 2, 1) := by decide +kernel
theorem dX0_freeOrderAt_2 : decode cX0_freeOrderAt 2 = .ok (.iload_n 2, 1) := by decide +kernel
theorem dX0_freeOrderAt_3 : decode cX0_freeOrderAt 3 = .ok (.bipush 8, 2) := by decide +kernel
theorem dX0_freeOrderAt_5 : decode cX0_freeOrderAt 5 = .ok (.if_icmp .gt 24, 3) := by decide +kernel
theorem dX0_freeOrderAt_8 : decode cX0_freeOrderAt 8 = .ok (.aload_n 0, 1) := by decide +kernel
theorem dX0_freeOrderAt_9 : decode cX0_freeOrderAt 9 = .ok (.iload_n 1, 1) := by decide +kernel
theorem dX0_freeOrderAt_10 : decode cX0_freeOrderAt 10 = .ok (.iload_n 2, 1) := by decide +kernel
theorem dX0_freeOrderAt_11 : decode cX0_freeOrderAt 11 = .ok (.invokestatic 44, 3) := by decide +kernel
theorem dX0_freeOrderAt_14 : decode cX0_freeOrderAt 14 = .ok (.iload_n 2, 1) := by decide +kernel
theorem dX0_freeOrderAt_15 : decode cX0_freeOrderAt 15 = .ok (.invokevirtual 113, 3) := by decide +kernel
theorem dX0_freeOrderAt_18 : decode cX0_freeOrderAt 18 = .ok (.ifCond .eq 5, 3) := by decide +kernel
theorem dX0_freeOrderAt_21 : decode cX0_freeOrderAt 21 = .ok (.iload_n 2, 1) := by decide +kernel
theorem dX0_freeOrderAt_22 : decode cX0_freeOrderAt 22 = .ok (.ireturn, 1) := by decide +kernel
theorem dX0_freeOrderAt_23 : decode cX0_freeOrderAt 23 = .ok (.iinc 2 1, 3) := by decide +kernel
theorem dX0_freeOrderAt_26 : decode cX0_freeOrderAt 26 = .ok (.goto (-24), 3) := by decide +kernel
theorem dX0_freeOrderAt_29 : decode cX0_freeOrderAt 29 = .ok (.iconst (-1), 1) := by decide +kernel
theorem dX0_freeOrderAt_30 : decode cX0_freeOrderAt 30 = .ok (.ireturn, 1) := by decide +kernel
