set_option maxRecDepth 20000 in
theorem dX0_init_0 : decode cX0_init 0 = .ok (.aload_n 0, 1) := by decide +kernel
set_option maxRecDepth 20000 in
theorem dX0_init_1 : decode cX0_init 1 = .ok (.invokespecial 3, 3) := by decide +kernel
set_option maxRecDepth 20000 in
theorem dX0_init_4 : decode cX0_init 4 = .ok (.aload_n 0, 1) := by decide +kernel
set_option maxRecDepth 20000 in
theorem dX0_init_5 : decode cX0_init 5 = .ok (.bipush 18, 2) := by decide +kernel
set_option maxRecDepth 20000 in
theorem dX0_init_7 : decode cX0_init 7 = .ok (.bipush 18, 2) := by decide +kernel
set_option maxRecDepth 20000 in
theorem dX0_init_9 : decode cX0_init 9 = .ok (.multianewarray 9 2, 4) := by decide +kernel
set_option maxRecDepth 20000 in
theorem dX0_init_13 : decode cX0_init 13 = .ok (.putfield 11, 3) := by decide +kernel
set_option maxRecDepth 20000 in
theorem dX0_init_16 : decode cX0_init 16 = .ok (.aload_n 0, 1) := by decide +kernel
set_option maxRecDepth 20000 in
theorem dX0_init_17 : decode cX0_init 17 = .ok (.bipush 18, 2) := by decide +kernel
set_option maxRecDepth 20000 in
theorem dX0_init_19 : decode cX0_init 19 = .ok (.newarray .int, 2) := by decide +kernel
set_option maxRecDepth 20000 in
theorem dX0_init_21 : decode cX0_init 21 = .ok (.putfield 16, 3) := by decide +kernel
set_option maxRecDepth 20000 in
theorem dX0_init_24 : decode cX0_init 24 = .ok (.aload_n 0, 1) := by decide +kernel
set_option maxRecDepth 20000 in
theorem dX0_init_25 : decode cX0_init 25 = .ok (.sipush 128, 3) := by decide +kernel
set_option maxRecDepth 20000 in
theorem dX0_init_28 : decode cX0_init 28 = .ok (.newarray .long, 2) := by decide +kernel
set_option maxRecDepth 20000 in
theorem dX0_init_30 : decode cX0_init 30 = .ok (.putfield 20, 3) := by decide +kernel
set_option maxRecDepth 20000 in
theorem dX0_init_33 : decode cX0_init 33 = .ok (.return_, 1) := by decide +kernel
set_option maxRecDepth 20000 in
theorem dX0_emptyAll_0 : decode cX0_emptyAll 0 = .ok (.iconst 0, 1) := by decide +kernel
set_option maxRecDepth 20000 in
theorem dX0_emptyAll_1 : decode cX0_emptyAll 1 = .ok (.istore_n 1, 1) := by decide +kernel
set_option maxRecDepth 20000 in
theorem dX0_emptyAll_2 : decode cX0_emptyAll 2 = .ok (.iload_n 1, 1) := by decide +kernel
set_option maxRecDepth 20000 in
theorem dX0_emptyAll_3 : decode cX0_emptyAll 3 = .ok (.bipush 18, 2) := by decide +kernel
set_option maxRecDepth 20000 in
theorem dX0_emptyAll_5 : decode cX0_emptyAll 5 = .ok (.if_icmp .ge 16, 3) := by decide +kernel
set_option maxRecDepth 20000 in
theorem dX0_emptyAll_8 : decode cX0_emptyAll 8 = .ok (.aload_n 0, 1) := by decide +kernel
set_option maxRecDepth 20000 in
theorem dX0_emptyAll_9 : decode cX0_emptyAll 9 = .ok (.getfield 16, 3) := by decide +kernel
set_option maxRecDepth 20000 in
theorem dX0_emptyAll_12 : decode cX0_emptyAll 12 = .ok (.iload_n 1, 1) := by decide +kernel
set_option maxRecDepth 20000 in
theorem dX0_emptyAll_13 : decode cX0_emptyAll 13 = .ok (.iconst 0, 1) := by decide +kernel
set_option maxRecDepth 20000 in
theorem dX0_emptyAll_14 : decode cX0_emptyAll 14 = .ok (.iastore, 1) := by decide +kernel
set_option maxRecDepth 20000 in
theorem dX0_emptyAll_15 : decode cX0_emptyAll 15 = .ok (.iinc 1 1, 3) := by decide +kernel
set_option maxRecDepth 20000 in
theorem dX0_emptyAll_18 : decode cX0_emptyAll 18 = .ok (.goto (-16), 3) := by decide +kernel
set_option maxRecDepth 20000 in
theorem dX0_emptyAll_21 : decode cX0_emptyAll 21 = .ok (.return_, 1) := by decide +kernel
set_option maxRecDepth 20000 in
theorem dX0_emptyOne_0 : decode cX0_emptyOne 0 = .ok (.aload_n 0, 1) := by decide +kernel
set_option maxRecDepth 20000 in
theorem dX0_emptyOne_1 : decode cX0_emptyOne 1 = .ok (.iload_n 1, 1) := by decide +kernel
set_option maxRecDepth 20000 in
theorem dX0_emptyOne_2 : decode cX0_emptyOne 2 = .ok (.invokevirtual 24, 3) := by decide +kernel
set_option maxRecDepth 20000 in
theorem dX0_emptyOne_5 : decode cX0_emptyOne 5 = .ok (.ifCond .ne 5, 3) := by decide +kernel
set_option maxRecDepth 20000 in
theorem dX0_emptyOne_8 : decode cX0_emptyOne 8 = .ok (.iconst 0, 1) := by decide +kernel
set_option maxRecDepth 20000 in
theorem dX0_emptyOne_9 : decode cX0_emptyOne 9 = .ok (.ireturn, 1) := by decide +kernel
set_option maxRecDepth 20000 in
theorem dX0_emptyOne_10 : decode cX0_emptyOne 10 = .ok (.aload_n 0, 1) := by decide +kernel
set_option maxRecDepth 20000 in
theorem dX0_emptyOne_11 : decode cX0_emptyOne 11 = .ok (.getfield 16, 3) := by decide +kernel
set_option maxRecDepth 20000 in
theorem dX0_emptyOne_14 : decode cX0_emptyOne 14 = .ok (.iload_n 1, 1) := by decide +kernel
set_option maxRecDepth 20000 in
theorem dX0_emptyOne_15 : decode cX0_emptyOne 15 = .ok (.iaload, 1) := by decide +kernel
set_option maxRecDepth 20000 in
theorem dX0_emptyOne_16 : decode cX0_emptyOne 16 = .ok (.istore_n 2, 1) := by decide +kernel
set_option maxRecDepth 20000 in
theorem dX0_emptyOne_17 : decode cX0_emptyOne 17 = .ok (.aload_n 0, 1) := by decide +kernel
set_option maxRecDepth 20000 in
theorem dX0_emptyOne_18 : decode cX0_emptyOne 18 = .ok (.getfield 16, 3) := by decide +kernel
set_option maxRecDepth 20000 in
theorem dX0_emptyOne_21 : decode cX0_emptyOne 21 = .ok (.iload_n 1, 1) := by decide +kernel
set_option maxRecDepth 20000 in
theorem dX0_emptyOne_22 : decode cX0_emptyOne 22 = .ok (.iconst 0, 1) := by decide +kernel
set_option maxRecDepth 20000 in
theorem dX0_emptyOne_23 : decode cX0_emptyOne 23 = .ok (.iastore, 1) := by decide +kernel
set_option maxRecDepth 20000 in
theorem dX0_emptyOne_24 : decode cX0_emptyOne 24 = .ok (.iload_n 2, 1) := by decide +kernel
set_option maxRecDepth 20000 in
theorem dX0_emptyOne_25 : decode cX0_emptyOne 25 = .ok (.ireturn, 1) := by decide +kernel
set_option maxRecDepth 20000 in
theorem dX0_holds_0 : decode cX0_holds 0 = .ok (.iload_n 1, 1) := by decide +kernel
set_option maxRecDepth 20000 in
theorem dX0_holds_1 : decode cX0_holds 1 = .ok (.ifCond .lt 13, 3) := by decide +kernel
set_option maxRecDepth 20000 in
theorem dX0_holds_4 : decode cX0_holds 4 = .ok (.iload_n 1, 1) := by decide +kernel
set_option maxRecDepth 20000 in
theorem dX0_holds_5 : decode cX0_holds 5 = .ok (.bipush 18, 2) := by decide +kernel
set_option maxRecDepth 20000 in
theorem dX0_holds_7 : decode cX0_holds 7 = .ok (.if_icmp .ge 7, 3) := by decide +kernel
set_option maxRecDepth 20000 in
theorem dX0_holds_10 : decode cX0_holds 10 = .ok (.iconst 1, 1) := by decide +kernel
set_option maxRecDepth 20000 in
theorem dX0_holds_11 : decode cX0_holds 11 = .ok (.goto 4, 3) := by decide +kernel
set_option maxRecDepth 20000 in
theorem dX0_holds_14 : decode cX0_holds 14 = .ok (.iconst 0, 1) := by decide +kernel
set_option maxRecDepth 20000 in
theorem dX0_holds_15 : decode cX0_holds 15 = .ok (.ireturn, 1) := by decide +kernel
set_option maxRecDepth 20000 in
theorem dX0_hasBox_0 : decode cX0_hasBox 0 = .ok (.aload_n 0, 1) := by decide +kernel
set_option maxRecDepth 20000 in
theorem dX0_hasBox_1 : decode cX0_hasBox 1 = .ok (.iload_n 1, 1) := by decide +kernel
set_option maxRecDepth 20000 in
theorem dX0_hasBox_2 : decode cX0_hasBox 2 = .ok (.bipush 18, 2) := by decide +kernel
set_option maxRecDepth 20000 in
theorem dX0_hasBox_4 : decode cX0_hasBox 4 = .ok (.invokevirtual 28, 3) := by decide +kernel
set_option maxRecDepth 20000 in
theorem dX0_hasBox_7 : decode cX0_hasBox 7 = .ok (.istore_n 3, 1) := by decide +kernel
set_option maxRecDepth 20000 in
theorem dX0_hasBox_8 : decode cX0_hasBox 8 = .ok (.iconst 0, 1) := by decide +kernel
set_option maxRecDepth 20000 in
theorem dX0_hasBox_9 : decode cX0_hasBox 9 = .ok (.istore 4, 2) := by decide +kernel
set_option maxRecDepth 20000 in
theorem dX0_hasBox_11 : decode cX0_hasBox 11 = .ok (.iload 4, 2) := by decide +kernel
set_option maxRecDepth 20000 in
theorem dX0_hasBox_13 : decode cX0_hasBox 13 = .ok (.iload_n 3, 1) := by decide +kernel
set_option maxRecDepth 20000 in
theorem dX0_hasBox_14 : decode cX0_hasBox 14 = .ok (.if_icmp .ge 24, 3) := by decide +kernel
set_option maxRecDepth 20000 in
theorem dX0_hasBox_17 : decode cX0_hasBox 17 = .ok (.aload_n 0, 1) := by decide +kernel
set_option maxRecDepth 20000 in
theorem dX0_hasBox_18 : decode cX0_hasBox 18 = .ok (.getfield 11, 3) := by decide +kernel
set_option maxRecDepth 20000 in
theorem dX0_hasBox_21 : decode cX0_hasBox 21 = .ok (.iload_n 1, 1) := by decide +kernel
set_option maxRecDepth 20000 in
theorem dX0_hasBox_22 : decode cX0_hasBox 22 = .ok (.aaload, 1) := by decide +kernel
set_option maxRecDepth 20000 in
theorem dX0_hasBox_23 : decode cX0_hasBox 23 = .ok (.iload 4, 2) := by decide +kernel
set_option maxRecDepth 20000 in
theorem dX0_hasBox_25 : decode cX0_hasBox 25 = .ok (.iaload, 1) := by decide +kernel
set_option maxRecDepth 20000 in
theorem dX0_hasBox_26 : decode cX0_hasBox 26 = .ok (.iload_n 2, 1) := by decide +kernel
set_option maxRecDepth 20000 in
theorem dX0_hasBox_27 : decode cX0_hasBox 27 = .ok (.if_icmp .ne 5, 3) := by decide +kernel
set_option maxRecDepth 20000 in
theorem dX0_hasBox_30 : decode cX0_hasBox 30 = .ok (.iconst 1, 1) := by decide +kernel
set_option maxRecDepth 20000 in
theorem dX0_hasBox_31 : decode cX0_hasBox 31 = .ok (.ireturn, 1) := by decide +kernel
set_option maxRecDepth 20000 in
theorem dX0_hasBox_32 : decode cX0_hasBox 32 = .ok (.iinc 4 1, 3) := by decide +kernel
set_option maxRecDepth 20000 in
theorem dX0_hasBox_35 : decode cX0_hasBox 35 = .ok (.goto (-24), 3) := by decide +kernel
set_option maxRecDepth 20000 in
theorem dX0_hasBox_38 : decode cX0_hasBox 38 = .ok (.iconst 0, 1) := by decide +kernel
set_option maxRecDepth 20000 in
theorem dX0_hasBox_39 : decode cX0_hasBox 39 = .ok (.ireturn, 1) := by decide +kernel
set_option maxRecDepth 20000 in
theorem dX0_addBox_0 : decode cX0_addBox 0 = .ok (.aload_n 0, 1) := by decide +kernel
set_option maxRecDepth 20000 in
theorem dX0_addBox_1 : decode cX0_addBox 1 = .ok (.iload_n 1, 1) := by decide +kernel
set_option maxRecDepth 20000 in
theorem dX0_addBox_2 : decode cX0_addBox 2 = .ok (.invokevirtual 24, 3) := by decide +kernel
set_option maxRecDepth 20000 in
theorem dX0_addBox_5 : decode cX0_addBox 5 = .ok (.ifCond .eq 14, 3) := by decide +kernel
set_option maxRecDepth 20000 in
theorem dX0_addBox_8 : decode cX0_addBox 8 = .ok (.aload_n 0, 1) := by decide +kernel
set_option maxRecDepth 20000 in
theorem dX0_addBox_9 : decode cX0_addBox 9 = .ok (.getfield 16, 3) := by decide +kernel
set_option maxRecDepth 20000 in
theorem dX0_addBox_12 : decode cX0_addBox 12 = .ok (.iload_n 1, 1) := by decide +kernel
set_option maxRecDepth 20000 in
theorem dX0_addBox_13 : decode cX0_addBox 13 = .ok (.iaload, 1) := by decide +kernel
set_option maxRecDepth 20000 in
theorem dX0_addBox_14 : decode cX0_addBox 14 = .ok (.bipush 18, 2) := by decide +kernel
set_option maxRecDepth 20000 in
theorem dX0_addBox_16 : decode cX0_addBox 16 = .ok (.if_icmp .lt 6, 3) := by decide +kernel
set_option maxRecDepth 20000 in
theorem dX0_addBox_19 : decode cX0_addBox 19 = .ok (.bipush (-2), 2) := by decide +kernel
set_option maxRecDepth 20000 in
theorem dX0_addBox_21 : decode cX0_addBox 21 = .ok (.ireturn, 1) := by decide +kernel
set_option maxRecDepth 20000 in
theorem dX0_addBox_22 : decode cX0_addBox 22 = .ok (.aload_n 0, 1) := by decide +kernel
set_option maxRecDepth 20000 in
theorem dX0_addBox_23 : decode cX0_addBox 23 = .ok (.getfield 11, 3) := by decide +kernel
set_option maxRecDepth 20000 in
theorem dX0_addBox_26 : decode cX0_addBox 26 = .ok (.iload_n 1, 1) := by decide +kernel
set_option maxRecDepth 20000 in
theorem dX0_addBox_27 : decode cX0_addBox 27 = .ok (.aaload, 1) := by decide +kernel
set_option maxRecDepth 20000 in
theorem dX0_addBox_28 : decode cX0_addBox 28 = .ok (.aload_n 0, 1) := by decide +kernel
set_option maxRecDepth 20000 in
theorem dX0_addBox_29 : decode cX0_addBox 29 = .ok (.getfield 16, 3) := by decide +kernel
set_option maxRecDepth 20000 in
theorem dX0_addBox_32 : decode cX0_addBox 32 = .ok (.iload_n 1, 1) := by decide +kernel
set_option maxRecDepth 20000 in
theorem dX0_addBox_33 : decode cX0_addBox 33 = .ok (.iaload, 1) := by decide +kernel
set_option maxRecDepth 20000 in
theorem dX0_addBox_34 : decode cX0_addBox 34 = .ok (.iload_n 2, 1) := by decide +kernel
set_option maxRecDepth 20000 in
theorem dX0_addBox_35 : decode cX0_addBox 35 = .ok (.iastore, 1) := by decide +kernel
set_option maxRecDepth 20000 in
theorem dX0_addBox_36 : decode cX0_addBox 36 = .ok (.aload_n 0, 1) := by decide +kernel
set_option maxRecDepth 20000 in
theorem dX0_addBox_37 : decode cX0_addBox 37 = .ok (.getfield 16, 3) := by decide +kernel
set_option maxRecDepth 20000 in
theorem dX0_addBox_40 : decode cX0_addBox 40 = .ok (.iload_n 1, 1) := by decide +kernel
set_option maxRecDepth 20000 in
theorem dX0_addBox_41 : decode cX0_addBox 41 = .ok (.dup2, 1) := by decide +kernel
set_option maxRecDepth 20000 in
theorem dX0_addBox_42 : decode cX0_addBox 42 = .ok (.iaload, 1) := by decide +kernel
set_option maxRecDepth 20000 in
theorem dX0_addBox_43 : decode cX0_addBox 43 = .ok (.iconst 1, 1) := by decide +kernel
set_option maxRecDepth 20000 in
theorem dX0_addBox_44 : decode cX0_addBox 44 = .ok (.iadd, 1) := by decide +kernel
set_option maxRecDepth 20000 in
theorem dX0_addBox_45 : decode cX0_addBox 45 = .ok (.iastore, 1) := by decide +kernel
set_option maxRecDepth 20000 in
theorem dX0_addBox_46 : decode cX0_addBox 46 = .ok (.aload_n 0, 1) := by decide +kernel
set_option maxRecDepth 20000 in
theorem dX0_addBox_47 : decode cX0_addBox 47 = .ok (.getfield 16, 3) := by decide +kernel
set_option maxRecDepth 20000 in
theorem dX0_addBox_50 : decode cX0_addBox 50 = .ok (.iload_n 1, 1) := by decide +kernel
set_option maxRecDepth 20000 in
theorem dX0_addBox_51 : decode cX0_addBox 51 = .ok (.iaload, 1) := by decide +kernel
set_option maxRecDepth 20000 in
theorem dX0_addBox_52 : decode cX0_addBox 52 = .ok (.ireturn, 1) := by decide +kernel
set_option maxRecDepth 20000 in
theorem dX0_boxesInAll_0 : decode cX0_boxesInAll 0 = .ok (.iconst 0, 1) := by decide +kernel
set_option maxRecDepth 20000 in
theorem dX0_boxesInAll_1 : decode cX0_boxesInAll 1 = .ok (.istore_n 1, 1) := by decide +kernel
set_option maxRecDepth 20000 in
theorem dX0_boxesInAll_2 : decode cX0_boxesInAll 2 = .ok (.iconst 0, 1) := by decide +kernel
set_option maxRecDepth 20000 in
theorem dX0_boxesInAll_3 : decode cX0_boxesInAll 3 = .ok (.istore_n 2, 1) := by decide +kernel
set_option maxRecDepth 20000 in
theorem dX0_boxesInAll_4 : decode cX0_boxesInAll 4 = .ok (.iload_n 2, 1) := by decide +kernel
set_option maxRecDepth 20000 in
theorem dX0_boxesInAll_5 : decode cX0_boxesInAll 5 = .ok (.bipush 18, 2) := by decide +kernel
set_option maxRecDepth 20000 in
theorem dX0_boxesInAll_7 : decode cX0_boxesInAll 7 = .ok (.if_icmp .ge 18, 3) := by decide +kernel
set_option maxRecDepth 20000 in
theorem dX0_boxesInAll_10 : decode cX0_boxesInAll 10 = .ok (.iload_n 1, 1) := by decide +kernel
set_option maxRecDepth 20000 in
theorem dX0_boxesInAll_11 : decode cX0_boxesInAll 11 = .ok (.aload_n 0, 1) := by decide +kernel
set_option maxRecDepth 20000 in
theorem dX0_boxesInAll_12 : decode cX0_boxesInAll 12 = .ok (.getfield 16, 3) := by decide +kernel
set_option maxRecDepth 20000 in
theorem dX0_boxesInAll_15 : decode cX0_boxesInAll 15 = .ok (.iload_n 2, 1) := by decide +kernel
set_option maxRecDepth 20000 in
theorem dX0_boxesInAll_16 : decode cX0_boxesInAll 16 = .ok (.iaload, 1) := by decide +kernel
set_option maxRecDepth 20000 in
theorem dX0_boxesInAll_17 : decode cX0_boxesInAll 17 = .ok (.iadd, 1) := by decide +kernel
set_option maxRecDepth 20000 in
theorem dX0_boxesInAll_18 : decode cX0_boxesInAll 18 = .ok (.istore_n 1, 1) := by decide +kernel
set_option maxRecDepth 20000 in
theorem dX0_boxesInAll_19 : decode cX0_boxesInAll 19 = .ok (.iinc 2 1, 3) := by decide +kernel
set_option maxRecDepth 20000 in
theorem dX0_boxesInAll_22 : decode cX0_boxesInAll 22 = .ok (.goto (-18), 3) := by decide +kernel
set_option maxRecDepth 20000 in
theorem dX0_boxesInAll_25 : decode cX0_boxesInAll 25 = .ok (.iload_n 1, 1) := by decide +kernel
set_option maxRecDepth 20000 in
theorem dX0_boxesInAll_26 : decode cX0_boxesInAll 26 = .ok (.ireturn, 1) := by decide +kernel
set_option maxRecDepth 20000 in
theorem dX0_firstOf_0 : decode cX0_firstOf 0 = .ok (.aload_n 0, 1) := by decide +kernel
set_option maxRecDepth 20000 in
theorem dX0_firstOf_1 : decode cX0_firstOf 1 = .ok (.iload_n 1, 1) := by decide +kernel
set_option maxRecDepth 20000 in
theorem dX0_firstOf_2 : decode cX0_firstOf 2 = .ok (.invokevirtual 24, 3) := by decide +kernel
set_option maxRecDepth 20000 in
theorem dX0_firstOf_5 : decode cX0_firstOf 5 = .ok (.ifCond .eq 21, 3) := by decide +kernel
set_option maxRecDepth 20000 in
theorem dX0_firstOf_8 : decode cX0_firstOf 8 = .ok (.aload_n 0, 1) := by decide +kernel
set_option maxRecDepth 20000 in
theorem dX0_firstOf_9 : decode cX0_firstOf 9 = .ok (.getfield 16, 3) := by decide +kernel
set_option maxRecDepth 20000 in
theorem dX0_firstOf_12 : decode cX0_firstOf 12 = .ok (.iload_n 1, 1) := by decide +kernel
set_option maxRecDepth 20000 in
theorem dX0_firstOf_13 : decode cX0_firstOf 13 = .ok (.iaload, 1) := by decide +kernel
set_option maxRecDepth 20000 in
theorem dX0_firstOf_14 : decode cX0_firstOf 14 = .ok (.iload_n 2, 1) := by decide +kernel
set_option maxRecDepth 20000 in
theorem dX0_firstOf_15 : decode cX0_firstOf 15 = .ok (.bipush 18, 2) := by decide +kernel
set_option maxRecDepth 20000 in
theorem dX0_firstOf_17 : decode cX0_firstOf 17 = .ok (.invokestatic 32, 3) := by decide +kernel
set_option maxRecDepth 20000 in
theorem dX0_firstOf_20 : decode cX0_firstOf 20 = .ok (.invokestatic 32, 3) := by decide +kernel
set_option maxRecDepth 20000 in
theorem dX0_firstOf_23 : decode cX0_firstOf 23 = .ok (.goto 4, 3) := by decide +kernel
set_option maxRecDepth 20000 in
theorem dX0_firstOf_26 : decode cX0_firstOf 26 = .ok (.iconst 0, 1) := by decide +kernel
set_option maxRecDepth 20000 in
theorem dX0_firstOf_27 : decode cX0_firstOf 27 = .ok (.ireturn, 1) := by decide +kernel
set_option maxRecDepth 20000 in
theorem dX0_findsOwnThing_0 : decode cX0_findsOwnThing 0 = .ok (.aload_n 0, 1) := by decide +kernel
set_option maxRecDepth 20000 in
theorem dX0_findsOwnThing_1 : decode cX0_findsOwnThing 1 = .ok (.iload_n 1, 1) := by decide +kernel
set_option maxRecDepth 20000 in
theorem dX0_findsOwnThing_2 : decode cX0_findsOwnThing 2 = .ok (.iload_n 2, 1) := by decide +kernel
set_option maxRecDepth 20000 in
theorem dX0_findsOwnThing_3 : decode cX0_findsOwnThing 3 = .ok (.invokevirtual 28, 3) := by decide +kernel
set_option maxRecDepth 20000 in
theorem dX0_findsOwnThing_6 : decode cX0_findsOwnThing 6 = .ok (.istore 4, 2) := by decide +kernel
set_option maxRecDepth 20000 in
theorem dX0_findsOwnThing_8 : decode cX0_findsOwnThing 8 = .ok (.iconst 0, 1) := by decide +kernel
set_option maxRecDepth 20000 in
theorem dX0_findsOwnThing_9 : decode cX0_findsOwnThing 9 = .ok (.istore 5, 2) := by decide +kernel
set_option maxRecDepth 20000 in
theorem dX0_findsOwnThing_11 : decode cX0_findsOwnThing 11 = .ok (.iload 5, 2) := by decide +kernel
set_option maxRecDepth 20000 in
theorem dX0_findsOwnThing_13 : decode cX0_findsOwnThing 13 = .ok (.iload 4, 2) := by decide +kernel
set_option maxRecDepth 20000 in
theorem dX0_findsOwnThing_15 : decode cX0_findsOwnThing 15 = .ok (.if_icmp .ge 28, 3) := by decide +kernel
set_option maxRecDepth 20000 in
theorem dX0_findsOwnThing_18 : decode cX0_findsOwnThing 18 = .ok (.aload_n 3, 1) := by decide +kernel
set_option maxRecDepth 20000 in
theorem dX0_findsOwnThing_19 : decode cX0_findsOwnThing 19 = .ok (.aload_n 0, 1) := by decide +kernel
set_option maxRecDepth 20000 in
theorem dX0_findsOwnThing_20 : decode cX0_findsOwnThing 20 = .ok (.getfield 11, 3) := by decide +kernel
set_option maxRecDepth 20000 in
theorem dX0_findsOwnThing_23 : decode cX0_findsOwnThing 23 = .ok (.iload_n 1, 1) := by decide +kernel
set_option maxRecDepth 20000 in
theorem dX0_findsOwnThing_24 : decode cX0_findsOwnThing 24 = .ok (.aaload, 1) := by decide +kernel
set_option maxRecDepth 20000 in
theorem dX0_findsOwnThing_25 : decode cX0_findsOwnThing 25 = .ok (.iload 5, 2) := by decide +kernel
set_option maxRecDepth 20000 in
theorem dX0_findsOwnThing_27 : decode cX0_findsOwnThing 27 = .ok (.iaload, 1) := by decide +kernel
set_option maxRecDepth 20000 in
theorem dX0_findsOwnThing_28 : decode cX0_findsOwnThing 28 = .ok (.invokevirtual 37, 3) := by decide +kernel
set_option maxRecDepth 20000 in
theorem dX0_findsOwnThing_31 : decode cX0_findsOwnThing 31 = .ok (.iload_n 1, 1) := by decide +kernel
set_option maxRecDepth 20000 in
theorem dX0_findsOwnThing_32 : decode cX0_findsOwnThing 32 = .ok (.if_icmp .ne 5, 3) := by decide +kernel
set_option maxRecDepth 20000 in
theorem dX0_findsOwnThing_35 : decode cX0_findsOwnThing 35 = .ok (.iconst 1, 1) := by decide +kernel
set_option maxRecDepth 20000 in
theorem dX0_findsOwnThing_36 : decode cX0_findsOwnThing 36 = .ok (.ireturn, 1) := by decide +kernel
set_option maxRecDepth 20000 in
theorem dX0_findsOwnThing_37 : decode cX0_findsOwnThing 37 = .ok (.iinc 5 1, 3) := by decide +kernel
set_option maxRecDepth 20000 in
theorem dX0_findsOwnThing_40 : decode cX0_findsOwnThing 40 = .ok (.goto (-29), 3) := by decide +kernel
set_option maxRecDepth 20000 in
theorem dX0_findsOwnThing_43 : decode cX0_findsOwnThing 43 = .ok (.iconst 0, 1) := by decide +kernel
set_option maxRecDepth 20000 in
theorem dX0_findsOwnThing_44 : decode cX0_findsOwnThing 44 = .ok (.ireturn, 1) := by decide +kernel
set_option maxRecDepth 20000 in
theorem dX0_ordersWonByAll_0 : decode cX0_ordersWonByAll 0 = .ok (.iload_n 1, 1) := by decide +kernel
set_option maxRecDepth 20000 in
theorem dX0_ordersWonByAll_1 : decode cX0_ordersWonByAll 1 = .ok (.iconst 1, 1) := by decide +kernel
set_option maxRecDepth 20000 in
theorem dX0_ordersWonByAll_2 : decode cX0_ordersWonByAll 2 = .ok (.if_icmp .lt 9, 3) := by decide +kernel
set_option maxRecDepth 20000 in
theorem dX0_ordersWonByAll_5 : decode cX0_ordersWonByAll 5 = .ok (.iload_n 1, 1) := by decide +kernel
set_option maxRecDepth 20000 in
theorem dX0_ordersWonByAll_6 : decode cX0_ordersWonByAll 6 = .ok (.bipush 7, 2) := by decide +kernel
set_option maxRecDepth 20000 in
theorem dX0_ordersWonByAll_8 : decode cX0_ordersWonByAll 8 = .ok (.if_icmp .le 7, 3) := by decide +kernel
set_option maxRecDepth 20000 in
theorem dX0_ordersWonByAll_11 : decode cX0_ordersWonByAll 11 = .ok (.ldc2_w 43, 3) := by decide +kernel
set_option maxRecDepth 20000 in
theorem dX0_ordersWonByAll_14 : decode cX0_ordersWonByAll 14 = .ok (.lreturn, 1) := by decide +kernel
set_option maxRecDepth 20000 in
theorem dX0_ordersWonByAll_15 : decode cX0_ordersWonByAll 15 = .ok (.iconst 1, 1) := by decide +kernel
set_option maxRecDepth 20000 in
theorem dX0_ordersWonByAll_16 : decode cX0_ordersWonByAll 16 = .ok (.iload_n 1, 1) := by decide +kernel
set_option maxRecDepth 20000 in
theorem dX0_ordersWonByAll_17 : decode cX0_ordersWonByAll 17 = .ok (.ishl, 1) := by decide +kernel
set_option maxRecDepth 20000 in
theorem dX0_ordersWonByAll_18 : decode cX0_ordersWonByAll 18 = .ok (.iconst 1, 1) := by decide +kernel
set_option maxRecDepth 20000 in
theorem dX0_ordersWonByAll_19 : decode cX0_ordersWonByAll 19 = .ok (.isub, 1) := by decide +kernel
set_option maxRecDepth 20000 in
theorem dX0_ordersWonByAll_20 : decode cX0_ordersWonByAll 20 = .ok (.istore_n 3, 1) := by decide +kernel
set_option maxRecDepth 20000 in
theorem dX0_ordersWonByAll_21 : decode cX0_ordersWonByAll 21 = .ok (.iconst 0, 1) := by decide +kernel
set_option maxRecDepth 20000 in
theorem dX0_ordersWonByAll_22 : decode cX0_ordersWonByAll 22 = .ok (.istore 4, 2) := by decide +kernel
set_option maxRecDepth 20000 in
theorem dX0_ordersWonByAll_24 : decode cX0_ordersWonByAll 24 = .ok (.iload 4, 2) := by decide +kernel
set_option maxRecDepth 20000 in
theorem dX0_ordersWonByAll_26 : decode cX0_ordersWonByAll 26 = .ok (.iload_n 3, 1) := by decide +kernel
set_option maxRecDepth 20000 in
theorem dX0_ordersWonByAll_27 : decode cX0_ordersWonByAll 27 = .ok (.if_icmp .gt 17, 3) := by decide +kernel
set_option maxRecDepth 20000 in
theorem dX0_ordersWonByAll_30 : decode cX0_ordersWonByAll 30 = .ok (.aload_n 0, 1) := by decide +kernel
set_option maxRecDepth 20000 in
theorem dX0_ordersWonByAll_31 : decode cX0_ordersWonByAll 31 = .ok (.getfield 20, 3) := by decide +kernel
set_option maxRecDepth 20000 in
theorem dX0_ordersWonByAll_34 : decode cX0_ordersWonByAll 34 = .ok (.iload 4, 2) := by decide +kernel
set_option maxRecDepth 20000 in
theorem dX0_ordersWonByAll_36 : decode cX0_ordersWonByAll 36 = .ok (.lconst 0, 1) := by decide +kernel
set_option maxRecDepth 20000 in
theorem dX0_ordersWonByAll_37 : decode cX0_ordersWonByAll 37 = .ok (.lastore, 1) := by decide +kernel
set_option maxRecDepth 20000 in
theorem dX0_ordersWonByAll_38 : decode cX0_ordersWonByAll 38 = .ok (.iinc 4 1, 3) := by decide +kernel
set_option maxRecDepth 20000 in
theorem dX0_ordersWonByAll_41 : decode cX0_ordersWonByAll 41 = .ok (.goto (-17), 3) := by decide +kernel
set_option maxRecDepth 20000 in
theorem dX0_ordersWonByAll_44 : decode cX0_ordersWonByAll 44 = .ok (.aload_n 0, 1) := by decide +kernel
set_option maxRecDepth 20000 in
theorem dX0_ordersWonByAll_45 : decode cX0_ordersWonByAll 45 = .ok (.getfield 20, 3) := by decide +kernel
set_option maxRecDepth 20000 in
theorem dX0_ordersWonByAll_48 : decode cX0_ordersWonByAll 48 = .ok (.iconst 0, 1) := by decide +kernel
set_option maxRecDepth 20000 in
theorem dX0_ordersWonByAll_49 : decode cX0_ordersWonByAll 49 = .ok (.lconst 1, 1) := by decide +kernel
set_option maxRecDepth 20000 in
theorem dX0_ordersWonByAll_50 : decode cX0_ordersWonByAll 50 = .ok (.lastore, 1) := by decide +kernel
set_option maxRecDepth 20000 in
theorem dX0_ordersWonByAll_51 : decode cX0_ordersWonByAll 51 = .ok (.iconst 0, 1) := by decide +kernel
set_option maxRecDepth 20000 in
theorem dX0_ordersWonByAll_52 : decode cX0_ordersWonByAll 52 = .ok (.istore 4, 2) := by decide +kernel
set_option maxRecDepth 20000 in
theorem dX0_ordersWonByAll_54 : decode cX0_ordersWonByAll 54 = .ok (.iload 4, 2) := by decide +kernel
set_option maxRecDepth 20000 in
theorem dX0_ordersWonByAll_56 : decode cX0_ordersWonByAll 56 = .ok (.iload_n 3, 1) := by decide +kernel
set_option maxRecDepth 20000 in
theorem dX0_ordersWonByAll_57 : decode cX0_ordersWonByAll 57 = .ok (.if_icmp .ge 29, 3) := by decide +kernel
set_option maxRecDepth 20000 in
theorem dX0_ordersWonByAll_60 : decode cX0_ordersWonByAll 60 = .ok (.aload_n 0, 1) := by decide +kernel
set_option maxRecDepth 20000 in
theorem dX0_ordersWonByAll_61 : decode cX0_ordersWonByAll 61 = .ok (.getfield 20, 3) := by decide +kernel
set_option maxRecDepth 20000 in
theorem dX0_ordersWonByAll_64 : decode cX0_ordersWonByAll 64 = .ok (.iload 4, 2) := by decide +kernel
set_option maxRecDepth 20000 in
theorem dX0_ordersWonByAll_66 : decode cX0_ordersWonByAll 66 = .ok (.laload, 1) := by decide +kernel
set_option maxRecDepth 20000 in
theorem dX0_ordersWonByAll_67 : decode cX0_ordersWonByAll 67 = .ok (.lconst 0, 1) := by decide +kernel
set_option maxRecDepth 20000 in
theorem dX0_ordersWonByAll_68 : decode cX0_ordersWonByAll 68 = .ok (.lcmp, 1) := by decide +kernel
set_option maxRecDepth 20000 in
theorem dX0_ordersWonByAll_69 : decode cX0_ordersWonByAll 69 = .ok (.ifCond .eq 11, 3) := by decide +kernel
set_option maxRecDepth 20000 in
theorem dX0_ordersWonByAll_72 : decode cX0_ordersWonByAll 72 = .ok (.aload_n 0, 1) := by decide +kernel
set_option maxRecDepth 20000 in
theorem dX0_ordersWonByAll_73 : decode cX0_ordersWonByAll 73 = .ok (.iload 4, 2) := by decide +kernel
set_option maxRecDepth 20000 in
theorem dX0_ordersWonByAll_75 : decode cX0_ordersWonByAll 75 = .ok (.iload_n 3, 1) := by decide +kernel
set_option maxRecDepth 20000 in
theorem dX0_ordersWonByAll_76 : decode cX0_ordersWonByAll 76 = .ok (.iload_n 2, 1) := by decide +kernel
set_option maxRecDepth 20000 in
theorem dX0_ordersWonByAll_77 : decode cX0_ordersWonByAll 77 = .ok (.invokevirtual 45, 3) := by decide +kernel
set_option maxRecDepth 20000 in
theorem dX0_ordersWonByAll_80 : decode cX0_ordersWonByAll 80 = .ok (.iinc 4 1, 3) := by decide +kernel
set_option maxRecDepth 20000 in
theorem dX0_ordersWonByAll_83 : decode cX0_ordersWonByAll 83 = .ok (.goto (-29), 3) := by decide +kernel
set_option maxRecDepth 20000 in
theorem dX0_ordersWonByAll_86 : decode cX0_ordersWonByAll 86 = .ok (.aload_n 0, 1) := by decide +kernel
set_option maxRecDepth 20000 in
theorem dX0_ordersWonByAll_87 : decode cX0_ordersWonByAll 87 = .ok (.getfield 20, 3) := by decide +kernel
set_option maxRecDepth 20000 in
theorem dX0_ordersWonByAll_90 : decode cX0_ordersWonByAll 90 = .ok (.iload_n 3, 1) := by decide +kernel
set_option maxRecDepth 20000 in
theorem dX0_ordersWonByAll_91 : decode cX0_ordersWonByAll 91 = .ok (.laload, 1) := by decide +kernel
set_option maxRecDepth 20000 in
theorem dX0_ordersWonByAll_92 : decode cX0_ordersWonByAll 92 = .ok (.lreturn, 1) := by decide +kernel
set_option maxRecDepth 20000 in
theorem dX0_placeNextThing_0 : decode cX0_placeNextThing 0 = .ok (.iload_n 1, 1) := by decide +kernel
set_option maxRecDepth 20000 in
theorem dX0_placeNextThing_1 : decode cX0_placeNextThing 1 = .ok (.invokestatic 49, 3) := by decide +kernel
set_option maxRecDepth 20000 in
theorem dX0_placeNextThing_4 : decode cX0_placeNextThing 4 = .ok (.istore 4, 2) := by decide +kernel
set_option maxRecDepth 20000 in
theorem dX0_placeNextThing_6 : decode cX0_placeNextThing 6 = .ok (.aload_n 0, 1) := by decide +kernel
set_option maxRecDepth 20000 in
theorem dX0_placeNextThing_7 : decode cX0_placeNextThing 7 = .ok (.iload 4, 2) := by decide +kernel
set_option maxRecDepth 20000 in
theorem dX0_placeNextThing_9 : decode cX0_placeNextThing 9 = .ok (.iload_n 3, 1) := by decide +kernel
set_option maxRecDepth 20000 in
theorem dX0_placeNextThing_10 : decode cX0_placeNextThing 10 = .ok (.invokevirtual 28, 3) := by decide +kernel
set_option maxRecDepth 20000 in
theorem dX0_placeNextThing_13 : decode cX0_placeNextThing 13 = .ok (.istore 5, 2) := by decide +kernel
set_option maxRecDepth 20000 in
theorem dX0_placeNextThing_15 : decode cX0_placeNextThing 15 = .ok (.iconst 0, 1) := by decide +kernel
set_option maxRecDepth 20000 in
theorem dX0_placeNextThing_16 : decode cX0_placeNextThing 16 = .ok (.istore 6, 2) := by decide +kernel
set_option maxRecDepth 20000 in
theorem dX0_placeNextThing_18 : decode cX0_placeNextThing 18 = .ok (.iload 6, 2) := by decide +kernel
set_option maxRecDepth 20000 in
theorem dX0_placeNextThing_20 : decode cX0_placeNextThing 20 = .ok (.iload 5, 2) := by decide +kernel
set_option maxRecDepth 20000 in
theorem dX0_placeNextThing_22 : decode cX0_placeNextThing 22 = .ok (.if_icmp .ge 53, 3) := by decide +kernel
set_option maxRecDepth 20000 in
theorem dX0_placeNextThing_25 : decode cX0_placeNextThing 25 = .ok (.iload_n 1, 1) := by decide +kernel
set_option maxRecDepth 20000 in
theorem dX0_placeNextThing_26 : decode cX0_placeNextThing 26 = .ok (.iconst 1, 1) := by decide +kernel
set_option maxRecDepth 20000 in
theorem dX0_placeNextThing_27 : decode cX0_placeNextThing 27 = .ok (.aload_n 0, 1) := by decide +kernel
set_option maxRecDepth 20000 in
theorem dX0_placeNextThing_28 : decode cX0_placeNextThing 28 = .ok (.getfield 11, 3) := by decide +kernel
set_option maxRecDepth 20000 in
theorem dX0_placeNextThing_31 : decode cX0_placeNextThing 31 = .ok (.iload 4, 2) := by decide +kernel
set_option maxRecDepth 20000 in
theorem dX0_placeNextThing_33 : decode cX0_placeNextThing 33 = .ok (.aaload, 1) := by decide +kernel
set_option maxRecDepth 20000 in
theorem dX0_placeNextThing_34 : decode cX0_placeNextThing 34 = .ok (.iload 6, 2) := by decide +kernel
set_option maxRecDepth 20000 in
theorem dX0_placeNextThing_36 : decode cX0_placeNextThing 36 = .ok (.iaload, 1) := by decide +kernel
set_option maxRecDepth 20000 in
theorem dX0_placeNextThing_37 : decode cX0_placeNextThing 37 = .ok (.ishl, 1) := by decide +kernel
set_option maxRecDepth 20000 in
theorem dX0_placeNextThing_38 : decode cX0_placeNextThing 38 = .ok (.ior, 1) := by decide +kernel
set_option maxRecDepth 20000 in
theorem dX0_placeNextThing_39 : decode cX0_placeNextThing 39 = .ok (.istore 7, 2) := by decide +kernel
set_option maxRecDepth 20000 in
theorem dX0_placeNextThing_41 : decode cX0_placeNextThing 41 = .ok (.iload 7, 2) := by decide +kernel
set_option maxRecDepth 20000 in
theorem dX0_placeNextThing_43 : decode cX0_placeNextThing 43 = .ok (.iload_n 1, 1) := by decide +kernel
set_option maxRecDepth 20000 in
theorem dX0_placeNextThing_44 : decode cX0_placeNextThing 44 = .ok (.if_icmp .le 25, 3) := by decide +kernel
set_option maxRecDepth 20000 in
theorem dX0_placeNextThing_47 : decode cX0_placeNextThing 47 = .ok (.iload 7, 2) := by decide +kernel
set_option maxRecDepth 20000 in
theorem dX0_placeNextThing_49 : decode cX0_placeNextThing 49 = .ok (.iload_n 2, 1) := by decide +kernel
set_option maxRecDepth 20000 in
theorem dX0_placeNextThing_50 : decode cX0_placeNextThing 50 = .ok (.if_icmp .gt 19, 3) := by decide +kernel
set_option maxRecDepth 20000 in
theorem dX0_placeNextThing_53 : decode cX0_placeNextThing 53 = .ok (.aload_n 0, 1) := by decide +kernel
set_option maxRecDepth 20000 in
theorem dX0_placeNextThing_54 : decode cX0_placeNextThing 54 = .ok (.getfield 20, 3) := by decide +kernel
set_option maxRecDepth 20000 in
theorem dX0_placeNextThing_57 : decode cX0_placeNextThing 57 = .ok (.iload 7, 2) := by decide +kernel
set_option maxRecDepth 20000 in
theorem dX0_placeNextThing_59 : decode cX0_placeNextThing 59 = .ok (.dup2, 1) := by decide +kernel
set_option maxRecDepth 20000 in
theorem dX0_placeNextThing_60 : decode cX0_placeNextThing 60 = .ok (.laload, 1) := by decide +kernel
set_option maxRecDepth 20000 in
theorem dX0_placeNextThing_61 : decode cX0_placeNextThing 61 = .ok (.aload_n 0, 1) := by decide +kernel
set_option maxRecDepth 20000 in
theorem dX0_placeNextThing_62 : decode cX0_placeNextThing 62 = .ok (.getfield 20, 3) := by decide +kernel
set_option maxRecDepth 20000 in
theorem dX0_placeNextThing_65 : decode cX0_placeNextThing 65 = .ok (.iload_n 1, 1) := by decide +kernel
set_option maxRecDepth 20000 in
theorem dX0_placeNextThing_66 : decode cX0_placeNextThing 66 = .ok (.laload, 1) := by decide +kernel
set_option maxRecDepth 20000 in
theorem dX0_placeNextThing_67 : decode cX0_placeNextThing 67 = .ok (.ladd, 1) := by decide +kernel
set_option maxRecDepth 20000 in
theorem dX0_placeNextThing_68 : decode cX0_placeNextThing 68 = .ok (.lastore, 1) := by decide +kernel
set_option maxRecDepth 20000 in
theorem dX0_placeNextThing_69 : decode cX0_placeNextThing 69 = .ok (.iinc 6 1, 3) := by decide +kernel
set_option maxRecDepth 20000 in
theorem dX0_placeNextThing_72 : decode cX0_placeNextThing 72 = .ok (.goto (-54), 3) := by decide +kernel
set_option maxRecDepth 20000 in
theorem dX0_placeNextThing_75 : decode cX0_placeNextThing 75 = .ok (.return_, 1) := by decide +kernel
set_option maxRecDepth 20000 in
theorem dX1_init_0 : decode cX1_init 0 = .ok (.aload_n 0, 1) := by decide +kernel
set_option maxRecDepth 20000 in
theorem dX1_init_1 : decode cX1_init 1 = .ok (.invokespecial 3, 3) := by decide +kernel
set_option maxRecDepth 20000 in
theorem dX1_init_4 : decode cX1_init 4 = .ok (.aload_n 0, 1) := by decide +kernel
set_option maxRecDepth 20000 in
theorem dX1_init_5 : decode cX1_init 5 = .ok (.bipush 18, 2) := by decide +kernel
set_option maxRecDepth 20000 in
theorem dX1_init_7 : decode cX1_init 7 = .ok (.newarray .int, 2) := by decide +kernel
set_option maxRecDepth 20000 in
theorem dX1_init_9 : decode cX1_init 9 = .ok (.putfield 9, 3) := by decide +kernel
set_option maxRecDepth 20000 in
theorem dX1_init_12 : decode cX1_init 12 = .ok (.aload_n 0, 1) := by decide +kernel
set_option maxRecDepth 20000 in
theorem dX1_init_13 : decode cX1_init 13 = .ok (.bipush 18, 2) := by decide +kernel
set_option maxRecDepth 20000 in
theorem dX1_init_15 : decode cX1_init 15 = .ok (.newarray .int, 2) := by decide +kernel
set_option maxRecDepth 20000 in
theorem dX1_init_17 : decode cX1_init 17 = .ok (.putfield 15, 3) := by decide +kernel
set_option maxRecDepth 20000 in
theorem dX1_init_20 : decode cX1_init 20 = .ok (.return_, 1) := by decide +kernel
set_option maxRecDepth 20000 in
theorem dX1_startWith_0 : decode cX1_startWith 0 = .ok (.aload_n 0, 1) := by decide +kernel
set_option maxRecDepth 20000 in
theorem dX1_startWith_1 : decode cX1_startWith 1 = .ok (.iload_n 1, 1) := by decide +kernel
set_option maxRecDepth 20000 in
theorem dX1_startWith_2 : decode cX1_startWith 2 = .ok (.bipush 18, 2) := by decide +kernel
set_option maxRecDepth 20000 in
theorem dX1_startWith_4 : decode cX1_startWith 4 = .ok (.invokestatic 18, 3) := by decide +kernel
set_option maxRecDepth 20000 in
theorem dX1_startWith_7 : decode cX1_startWith 7 = .ok (.putfield 24, 3) := by decide +kernel
set_option maxRecDepth 20000 in
theorem dX1_startWith_10 : decode cX1_startWith 10 = .ok (.iconst 0, 1) := by decide +kernel
set_option maxRecDepth 20000 in
theorem dX1_startWith_11 : decode cX1_startWith 11 = .ok (.istore_n 2, 1) := by decide +kernel
set_option maxRecDepth 20000 in
theorem dX1_startWith_12 : decode cX1_startWith 12 = .ok (.iload_n 2, 1) := by decide +kernel
set_option maxRecDepth 20000 in
theorem dX1_startWith_13 : decode cX1_startWith 13 = .ok (.aload_n 0, 1) := by decide +kernel
set_option maxRecDepth 20000 in
theorem dX1_startWith_14 : decode cX1_startWith 14 = .ok (.getfield 24, 3) := by decide +kernel
set_option maxRecDepth 20000 in
theorem dX1_startWith_17 : decode cX1_startWith 17 = .ok (.if_icmp .ge 16, 3) := by decide +kernel
set_option maxRecDepth 20000 in
theorem dX1_startWith_20 : decode cX1_startWith 20 = .ok (.aload_n 0, 1) := by decide +kernel
set_option maxRecDepth 20000 in
theorem dX1_startWith_21 : decode cX1_startWith 21 = .ok (.getfield 9, 3) := by decide +kernel
set_option maxRecDepth 20000 in
theorem dX1_startWith_24 : decode cX1_startWith 24 = .ok (.iload_n 2, 1) := by decide +kernel
set_option maxRecDepth 20000 in
theorem dX1_startWith_25 : decode cX1_startWith 25 = .ok (.iload_n 2, 1) := by decide +kernel
set_option maxRecDepth 20000 in
theorem dX1_startWith_26 : decode cX1_startWith 26 = .ok (.iastore, 1) := by decide +kernel
set_option maxRecDepth 20000 in
theorem dX1_startWith_27 : decode cX1_startWith 27 = .ok (.iinc 2 1, 3) := by decide +kernel
set_option maxRecDepth 20000 in
theorem dX1_startWith_30 : decode cX1_startWith 30 = .ok (.goto (-18), 3) := by decide +kernel
set_option maxRecDepth 20000 in
theorem dX1_startWith_33 : decode cX1_startWith 33 = .ok (.return_, 1) := by decide +kernel
set_option maxRecDepth 20000 in
theorem dX1_holds_0 : decode cX1_holds 0 = .ok (.iload_n 1, 1) := by decide +kernel
set_option maxRecDepth 20000 in
theorem dX1_holds_1 : decode cX1_holds 1 = .ok (.ifCond .lt 15, 3) := by decide +kernel
set_option maxRecDepth 20000 in
theorem dX1_holds_4 : decode cX1_holds 4 = .ok (.iload_n 1, 1) := by decide +kernel
set_option maxRecDepth 20000 in
theorem dX1_holds_5 : decode cX1_holds 5 = .ok (.aload_n 0, 1) := by decide +kernel
set_option maxRecDepth 20000 in
theorem dX1_holds_6 : decode cX1_holds 6 = .ok (.getfield 24, 3) := by decide +kernel
set_option maxRecDepth 20000 in
theorem dX1_holds_9 : decode cX1_holds 9 = .ok (.if_icmp .ge 7, 3) := by decide +kernel
set_option maxRecDepth 20000 in
theorem dX1_holds_12 : decode cX1_holds 12 = .ok (.iconst 1, 1) := by decide +kernel
set_option maxRecDepth 20000 in
theorem dX1_holds_13 : decode cX1_holds 13 = .ok (.goto 4, 3) := by decide +kernel
set_option maxRecDepth 20000 in
theorem dX1_holds_16 : decode cX1_holds 16 = .ok (.iconst 0, 1) := by decide +kernel
set_option maxRecDepth 20000 in
theorem dX1_holds_17 : decode cX1_holds 17 = .ok (.ireturn, 1) := by decide +kernel
set_option maxRecDepth 20000 in
theorem dX1_follow_0 : decode cX1_follow 0 = .ok (.aload_n 0, 1) := by decide +kernel
set_option maxRecDepth 20000 in
theorem dX1_follow_1 : decode cX1_follow 1 = .ok (.iload_n 1, 1) := by decide +kernel
set_option maxRecDepth 20000 in
theorem dX1_follow_2 : decode cX1_follow 2 = .ok (.invokevirtual 28, 3) := by decide +kernel
set_option maxRecDepth 20000 in
theorem dX1_follow_5 : decode cX1_follow 5 = .ok (.ifCond .eq 12, 3) := by decide +kernel
set_option maxRecDepth 20000 in
theorem dX1_follow_8 : decode cX1_follow 8 = .ok (.aload_n 0, 1) := by decide +kernel
set_option maxRecDepth 20000 in
theorem dX1_follow_9 : decode cX1_follow 9 = .ok (.getfield 9, 3) := by decide +kernel
set_option maxRecDepth 20000 in
theorem dX1_follow_12 : decode cX1_follow 12 = .ok (.iload_n 1, 1) := by decide +kernel
set_option maxRecDepth 20000 in
theorem dX1_follow_13 : decode cX1_follow 13 = .ok (.iaload, 1) := by decide +kernel
set_option maxRecDepth 20000 in
theorem dX1_follow_14 : decode cX1_follow 14 = .ok (.goto 4, 3) := by decide +kernel
set_option maxRecDepth 20000 in
theorem dX1_follow_17 : decode cX1_follow 17 = .ok (.iconst 0, 1) := by decide +kernel
set_option maxRecDepth 20000 in
theorem dX1_follow_18 : decode cX1_follow 18 = .ok (.ireturn, 1) := by decide +kernel
set_option maxRecDepth 20000 in
theorem dX1_makeAt_0 : decode cX1_makeAt 0 = .ok (.aload_n 0, 1) := by decide +kernel
set_option maxRecDepth 20000 in
theorem dX1_makeAt_1 : decode cX1_makeAt 1 = .ok (.iload_n 1, 1) := by decide +kernel
set_option maxRecDepth 20000 in
theorem dX1_makeAt_2 : decode cX1_makeAt 2 = .ok (.invokevirtual 28, 3) := by decide +kernel
set_option maxRecDepth 20000 in
theorem dX1_makeAt_5 : decode cX1_makeAt 5 = .ok (.ifCond .eq 10, 3) := by decide +kernel
set_option maxRecDepth 20000 in
theorem dX1_makeAt_8 : decode cX1_makeAt 8 = .ok (.aload_n 0, 1) := by decide +kernel
set_option maxRecDepth 20000 in
theorem dX1_makeAt_9 : decode cX1_makeAt 9 = .ok (.getfield 15, 3) := by decide +kernel
set_option maxRecDepth 20000 in
theorem dX1_makeAt_12 : decode cX1_makeAt 12 = .ok (.iload_n 1, 1) := by decide +kernel
set_option maxRecDepth 20000 in
theorem dX1_makeAt_13 : decode cX1_makeAt 13 = .ok (.iload_n 2, 1) := by decide +kernel
set_option maxRecDepth 20000 in
theorem dX1_makeAt_14 : decode cX1_makeAt 14 = .ok (.iastore, 1) := by decide +kernel
set_option maxRecDepth 20000 in
theorem dX1_makeAt_15 : decode cX1_makeAt 15 = .ok (.return_, 1) := by decide +kernel
set_option maxRecDepth 20000 in
theorem dX1_keepMade_0 : decode cX1_keepMade 0 = .ok (.iconst 0, 1) := by decide +kernel
set_option maxRecDepth 20000 in
theorem dX1_keepMade_1 : decode cX1_keepMade 1 = .ok (.istore_n 1, 1) := by decide +kernel
set_option maxRecDepth 20000 in
theorem dX1_keepMade_2 : decode cX1_keepMade 2 = .ok (.iload_n 1, 1) := by decide +kernel
set_option maxRecDepth 20000 in
theorem dX1_keepMade_3 : decode cX1_keepMade 3 = .ok (.aload_n 0, 1) := by decide +kernel
set_option maxRecDepth 20000 in
theorem dX1_keepMade_4 : decode cX1_keepMade 4 = .ok (.getfield 24, 3) := by decide +kernel
set_option maxRecDepth 20000 in
theorem dX1_keepMade_7 : decode cX1_keepMade 7 = .ok (.if_icmp .ge 21, 3) := by decide +kernel
set_option maxRecDepth 20000 in
theorem dX1_keepMade_10 : decode cX1_keepMade 10 = .ok (.aload_n 0, 1) := by decide +kernel
set_option maxRecDepth 20000 in
theorem dX1_keepMade_11 : decode cX1_keepMade 11 = .ok (.getfield 9, 3) := by decide +kernel
set_option maxRecDepth 20000 in
theorem dX1_keepMade_14 : decode cX1_keepMade 14 = .ok (.iload_n 1, 1) := by decide +kernel
set_option maxRecDepth 20000 in
theorem dX1_keepMade_15 : decode cX1_keepMade 15 = .ok (.aload_n 0, 1) := by decide +kernel
set_option maxRecDepth 20000 in
theorem dX1_keepMade_16 : decode cX1_keepMade 16 = .ok (.getfield 15, 3) := by decide +kernel
set_option maxRecDepth 20000 in
theorem dX1_keepMade_19 : decode cX1_keepMade 19 = .ok (.iload_n 1, 1) := by decide +kernel
set_option maxRecDepth 20000 in
theorem dX1_keepMade_20 : decode cX1_keepMade 20 = .ok (.iaload, 1) := by decide +kernel
set_option maxRecDepth 20000 in
theorem dX1_keepMade_21 : decode cX1_keepMade 21 = .ok (.iastore, 1) := by decide +kernel
set_option maxRecDepth 20000 in
theorem dX1_keepMade_22 : decode cX1_keepMade 22 = .ok (.iinc 1 1, 3) := by decide +kernel
set_option maxRecDepth 20000 in
theorem dX1_keepMade_25 : decode cX1_keepMade 25 = .ok (.goto (-23), 3) := by decide +kernel
set_option maxRecDepth 20000 in
theorem dX1_keepMade_28 : decode cX1_keepMade 28 = .ok (.return_, 1) := by decide +kernel
set_option maxRecDepth 20000 in
theorem dX1_readFigures_0 : decode cX1_readFigures 0 = .ok (.lload_n 1, 1) := by decide +kernel
set_option maxRecDepth 20000 in
theorem dX1_readFigures_1 : decode cX1_readFigures 1 = .ok (.lconst 0, 1) := by decide +kernel
set_option maxRecDepth 20000 in
theorem dX1_readFigures_2 : decode cX1_readFigures 2 = .ok (.lcmp, 1) := by decide +kernel
set_option maxRecDepth 20000 in
theorem dX1_readFigures_3 : decode cX1_readFigures 3 = .ok (.ifCond .lt 9, 3) := by decide +kernel
set_option maxRecDepth 20000 in
theorem dX1_readFigures_6 : decode cX1_readFigures 6 = .ok (.lload_n 3, 1) := by decide +kernel
set_option maxRecDepth 20000 in
theorem dX1_readFigures_7 : decode cX1_readFigures 7 = .ok (.lconst 0, 1) := by decide +kernel
set_option maxRecDepth 20000 in
theorem dX1_readFigures_8 : decode cX1_readFigures 8 = .ok (.lcmp, 1) := by decide +kernel
set_option maxRecDepth 20000 in
theorem dX1_readFigures_9 : decode cX1_readFigures 9 = .ok (.ifCond .ge 5, 3) := by decide +kernel
set_option maxRecDepth 20000 in
theorem dX1_readFigures_12 : decode cX1_readFigures 12 = .ok (.iconst 0, 1) := by decide +kernel
set_option maxRecDepth 20000 in
theorem dX1_readFigures_13 : decode cX1_readFigures 13 = .ok (.ireturn, 1) := by decide +kernel
set_option maxRecDepth 20000 in
theorem dX1_readFigures_14 : decode cX1_readFigures 14 = .ok (.lload_n 1, 1) := by decide +kernel
set_option maxRecDepth 20000 in
theorem dX1_readFigures_15 : decode cX1_readFigures 15 = .ok (.lstore 5, 2) := by decide +kernel
set_option maxRecDepth 20000 in
theorem dX1_readFigures_17 : decode cX1_readFigures 17 = .ok (.lload_n 3, 1) := by decide +kernel
set_option maxRecDepth 20000 in
theorem dX1_readFigures_18 : decode cX1_readFigures 18 = .ok (.lstore 7, 2) := by decide +kernel
set_option maxRecDepth 20000 in
theorem dX1_readFigures_20 : decode cX1_readFigures 20 = .ok (.iconst 0, 1) := by decide +kernel
set_option maxRecDepth 20000 in
theorem dX1_readFigures_21 : decode cX1_readFigures 21 = .ok (.istore 9, 2) := by decide +kernel
set_option maxRecDepth 20000 in
theorem dX1_readFigures_23 : decode cX1_readFigures 23 = .ok (.iconst 0, 1) := by decide +kernel
set_option maxRecDepth 20000 in
theorem dX1_readFigures_24 : decode cX1_readFigures 24 = .ok (.istore 10, 2) := by decide +kernel
set_option maxRecDepth 20000 in
theorem dX1_readFigures_26 : decode cX1_readFigures 26 = .ok (.iload 10, 2) := by decide +kernel
set_option maxRecDepth 20000 in
theorem dX1_readFigures_28 : decode cX1_readFigures 28 = .ok (.aload_n 0, 1) := by decide +kernel
set_option maxRecDepth 20000 in
theorem dX1_readFigures_29 : decode cX1_readFigures 29 = .ok (.getfield 24, 3) := by decide +kernel
set_option maxRecDepth 20000 in
theorem dX1_readFigures_32 : decode cX1_readFigures 32 = .ok (.if_icmp .ge 95, 3) := by decide +kernel
set_option maxRecDepth 20000 in
theorem dX1_readFigures_35 : decode cX1_readFigures 35 = .ok (.iload 10, 2) := by decide +kernel
set_option maxRecDepth 20000 in
theorem dX1_readFigures_37 : decode cX1_readFigures 37 = .ok (.bipush 9, 2) := by decide +kernel
set_option maxRecDepth 20000 in
theorem dX1_readFigures_39 : decode cX1_readFigures 39 = .ok (.if_icmp .ge 7, 3) := by decide +kernel
set_option maxRecDepth 20000 in
theorem dX1_readFigures_42 : decode cX1_readFigures 42 = .ok (.iconst 1, 1) := by decide +kernel
set_option maxRecDepth 20000 in
theorem dX1_readFigures_43 : decode cX1_readFigures 43 = .ok (.goto 4, 3) := by decide +kernel
set_option maxRecDepth 20000 in
theorem dX1_readFigures_46 : decode cX1_readFigures 46 = .ok (.iconst 0, 1) := by decide +kernel
set_option maxRecDepth 20000 in
theorem dX1_readFigures_47 : decode cX1_readFigures 47 = .ok (.istore 11, 2) := by decide +kernel
set_option maxRecDepth 20000 in
theorem dX1_readFigures_49 : decode cX1_readFigures 49 = .ok (.iload 11, 2) := by decide +kernel
set_option maxRecDepth 20000 in
theorem dX1_readFigures_51 : decode cX1_readFigures 51 = .ok (.ifCond .eq 8, 3) := by decide +kernel
set_option maxRecDepth 20000 in
theorem dX1_readFigures_54 : decode cX1_readFigures 54 = .ok (.lload 5, 2) := by decide +kernel
set_option maxRecDepth 20000 in
theorem dX1_readFigures_56 : decode cX1_readFigures 56 = .ok (.goto 5, 3) := by decide +kernel
set_option maxRecDepth 20000 in
theorem dX1_readFigures_59 : decode cX1_readFigures 59 = .ok (.lload 7, 2) := by decide +kernel
set_option maxRecDepth 20000 in
theorem dX1_readFigures_61 : decode cX1_readFigures 61 = .ok (.ldc2_w 32, 3) := by decide +kernel
set_option maxRecDepth 20000 in
theorem dX1_readFigures_64 : decode cX1_readFigures 64 = .ok (.lrem, 1) := by decide +kernel
set_option maxRecDepth 20000 in
theorem dX1_readFigures_65 : decode cX1_readFigures 65 = .ok (.l2i, 1) := by decide +kernel
set_option maxRecDepth 20000 in
theorem dX1_readFigures_66 : decode cX1_readFigures 66 = .ok (.istore 12, 2) := by decide +kernel
set_option maxRecDepth 20000 in
theorem dX1_readFigures_68 : decode cX1_readFigures 68 = .ok (.aload_n 0, 1) := by decide +kernel
set_option maxRecDepth 20000 in
theorem dX1_readFigures_69 : decode cX1_readFigures 69 = .ok (.iload 12, 2) := by decide +kernel
set_option maxRecDepth 20000 in
theorem dX1_readFigures_71 : decode cX1_readFigures 71 = .ok (.invokevirtual 28, 3) := by decide +kernel
set_option maxRecDepth 20000 in
theorem dX1_readFigures_74 : decode cX1_readFigures 74 = .ok (.ifCond .ne 5, 3) := by decide +kernel
set_option maxRecDepth 20000 in
theorem dX1_readFigures_77 : decode cX1_readFigures 77 = .ok (.iconst 0, 1) := by decide +kernel
set_option maxRecDepth 20000 in
theorem dX1_readFigures_78 : decode cX1_readFigures 78 = .ok (.ireturn, 1) := by decide +kernel
set_option maxRecDepth 20000 in
theorem dX1_readFigures_79 : decode cX1_readFigures 79 = .ok (.iload 11, 2) := by decide +kernel
set_option maxRecDepth 20000 in
theorem dX1_readFigures_81 : decode cX1_readFigures 81 = .ok (.ifCond .eq 14, 3) := by decide +kernel
set_option maxRecDepth 20000 in
theorem dX1_readFigures_84 : decode cX1_readFigures 84 = .ok (.lload 5, 2) := by decide +kernel
set_option maxRecDepth 20000 in
theorem dX1_readFigures_86 : decode cX1_readFigures 86 = .ok (.ldc2_w 32, 3) := by decide +kernel
set_option maxRecDepth 20000 in
theorem dX1_readFigures_89 : decode cX1_readFigures 89 = .ok (.ldiv, 1) := by decide +kernel
set_option maxRecDepth 20000 in
theorem dX1_readFigures_90 : decode cX1_readFigures 90 = .ok (.lstore 5, 2) := by decide +kernel
set_option maxRecDepth 20000 in
theorem dX1_readFigures_92 : decode cX1_readFigures 92 = .ok (.goto 11, 3) := by decide +kernel
set_option maxRecDepth 20000 in
theorem dX1_readFigures_95 : decode cX1_readFigures 95 = .ok (.lload 7, 2) := by decide +kernel
set_option maxRecDepth 20000 in
theorem dX1_readFigures_97 : decode cX1_readFigures 97 = .ok (.ldc2_w 32, 3) := by decide +kernel
set_option maxRecDepth 20000 in
theorem dX1_readFigures_100 : decode cX1_readFigures 100 = .ok (.ldiv, 1) := by decide +kernel
set_option maxRecDepth 20000 in
theorem dX1_readFigures_101 : decode cX1_readFigures 101 = .ok (.lstore 7, 2) := by decide +kernel
set_option maxRecDepth 20000 in
theorem dX1_readFigures_103 : decode cX1_readFigures 103 = .ok (.aload_n 0, 1) := by decide +kernel
set_option maxRecDepth 20000 in
theorem dX1_readFigures_104 : decode cX1_readFigures 104 = .ok (.getfield 15, 3) := by decide +kernel
set_option maxRecDepth 20000 in
theorem dX1_readFigures_107 : decode cX1_readFigures 107 = .ok (.iload 10, 2) := by decide +kernel
set_option maxRecDepth 20000 in
theorem dX1_readFigures_109 : decode cX1_readFigures 109 = .ok (.iload 12, 2) := by decide +kernel
set_option maxRecDepth 20000 in
theorem dX1_readFigures_111 : decode cX1_readFigures 111 = .ok (.iastore, 1) := by decide +kernel
set_option maxRecDepth 20000 in
theorem dX1_readFigures_112 : decode cX1_readFigures 112 = .ok (.iload 9, 2) := by decide +kernel
set_option maxRecDepth 20000 in
theorem dX1_readFigures_114 : decode cX1_readFigures 114 = .ok (.iconst 1, 1) := by decide +kernel
set_option maxRecDepth 20000 in
theorem dX1_readFigures_115 : decode cX1_readFigures 115 = .ok (.iload 12, 2) := by decide +kernel
set_option maxRecDepth 20000 in
theorem dX1_readFigures_117 : decode cX1_readFigures 117 = .ok (.ishl, 1) := by decide +kernel
set_option maxRecDepth 20000 in
theorem dX1_readFigures_118 : decode cX1_readFigures 118 = .ok (.ior, 1) := by decide +kernel
set_option maxRecDepth 20000 in
theorem dX1_readFigures_119 : decode cX1_readFigures 119 = .ok (.istore 9, 2) := by decide +kernel
set_option maxRecDepth 20000 in
theorem dX1_readFigures_121 : decode cX1_readFigures 121 = .ok (.iinc 10 1, 3) := by decide +kernel
set_option maxRecDepth 20000 in
theorem dX1_readFigures_124 : decode cX1_readFigures 124 = .ok (.goto (-98), 3) := by decide +kernel
set_option maxRecDepth 20000 in
theorem dX1_readFigures_127 : decode cX1_readFigures 127 = .ok (.lload 5, 2) := by decide +kernel
set_option maxRecDepth 20000 in
theorem dX1_readFigures_129 : decode cX1_readFigures 129 = .ok (.lconst 0, 1) := by decide +kernel
set_option maxRecDepth 20000 in
theorem dX1_readFigures_130 : decode cX1_readFigures 130 = .ok (.lcmp, 1) := by decide +kernel
set_option maxRecDepth 20000 in
theorem dX1_readFigures_131 : decode cX1_readFigures 131 = .ok (.ifCond .ne 23, 3) := by decide +kernel
set_option maxRecDepth 20000 in
theorem dX1_readFigures_134 : decode cX1_readFigures 134 = .ok (.lload 7, 2) := by decide +kernel
set_option maxRecDepth 20000 in
theorem dX1_readFigures_136 : decode cX1_readFigures 136 = .ok (.lconst 0, 1) := by decide +kernel
set_option maxRecDepth 20000 in
theorem dX1_readFigures_137 : decode cX1_readFigures 137 = .ok (.lcmp, 1) := by decide +kernel
set_option maxRecDepth 20000 in
theorem dX1_readFigures_138 : decode cX1_readFigures 138 = .ok (.ifCond .ne 16, 3) := by decide +kernel
set_option maxRecDepth 20000 in
theorem dX1_readFigures_141 : decode cX1_readFigures 141 = .ok (.iload 9, 2) := by decide +kernel
set_option maxRecDepth 20000 in
theorem dX1_readFigures_143 : decode cX1_readFigures 143 = .ok (.iconst 1, 1) := by decide +kernel
set_option maxRecDepth 20000 in
theorem dX1_readFigures_144 : decode cX1_readFigures 144 = .ok (.aload_n 0, 1) := by decide +kernel
set_option maxRecDepth 20000 in
theorem dX1_readFigures_145 : decode cX1_readFigures 145 = .ok (.getfield 24, 3) := by decide +kernel
set_option maxRecDepth 20000 in
theorem dX1_readFigures_148 : decode cX1_readFigures 148 = .ok (.ishl, 1) := by decide +kernel
set_option maxRecDepth 20000 in
theorem dX1_readFigures_149 : decode cX1_readFigures 149 = .ok (.iconst 1, 1) := by decide +kernel
set_option maxRecDepth 20000 in
theorem dX1_readFigures_150 : decode cX1_readFigures 150 = .ok (.isub, 1) := by decide +kernel
set_option maxRecDepth 20000 in
theorem dX1_readFigures_151 : decode cX1_readFigures 151 = .ok (.if_icmp .eq 5, 3) := by decide +kernel
set_option maxRecDepth 20000 in
theorem dX1_readFigures_154 : decode cX1_readFigures 154 = .ok (.iconst 0, 1) := by decide +kernel
set_option maxRecDepth 20000 in
theorem dX1_readFigures_155 : decode cX1_readFigures 155 = .ok (.ireturn, 1) := by decide +kernel
set_option maxRecDepth 20000 in
theorem dX1_readFigures_156 : decode cX1_readFigures 156 = .ok (.aload_n 0, 1) := by decide +kernel
set_option maxRecDepth 20000 in
theorem dX1_readFigures_157 : decode cX1_readFigures 157 = .ok (.invokevirtual 34, 3) := by decide +kernel
set_option maxRecDepth 20000 in
theorem dX1_readFigures_160 : decode cX1_readFigures 160 = .ok (.iconst 1, 1) := by decide +kernel
set_option maxRecDepth 20000 in
theorem dX1_readFigures_161 : decode cX1_readFigures 161 = .ok (.ireturn, 1) := by decide +kernel
set_option maxRecDepth 20000 in
theorem dX1_exchange_0 : decode cX1_exchange 0 = .ok (.aload_n 0, 1) := by decide +kernel
set_option maxRecDepth 20000 in
theorem dX1_exchange_1 : decode cX1_exchange 1 = .ok (.iload_n 1, 1) := by decide +kernel
set_option maxRecDepth 20000 in
theorem dX1_exchange_2 : decode cX1_exchange 2 = .ok (.invokevirtual 28, 3) := by decide +kernel
set_option maxRecDepth 20000 in
theorem dX1_exchange_5 : decode cX1_exchange 5 = .ok (.ifCond .eq 37, 3) := by decide +kernel
set_option maxRecDepth 20000 in
theorem dX1_exchange_8 : decode cX1_exchange 8 = .ok (.aload_n 0, 1) := by decide +kernel
set_option maxRecDepth 20000 in
theorem dX1_exchange_9 : decode cX1_exchange 9 = .ok (.iload_n 2, 1) := by decide +kernel
set_option maxRecDepth 20000 in
theorem dX1_exchange_10 : decode cX1_exchange 10 = .ok (.invokevirtual 28, 3) := by decide +kernel
set_option maxRecDepth 20000 in
theorem dX1_exchange_13 : decode cX1_exchange 13 = .ok (.ifCond .eq 29, 3) := by decide +kernel
set_option maxRecDepth 20000 in
theorem dX1_exchange_16 : decode cX1_exchange 16 = .ok (.aload_n 0, 1) := by decide +kernel
set_option maxRecDepth 20000 in
theorem dX1_exchange_17 : decode cX1_exchange 17 = .ok (.getfield 9, 3) := by decide +kernel
set_option maxRecDepth 20000 in
theorem dX1_exchange_20 : decode cX1_exchange 20 = .ok (.iload_n 1, 1) := by decide +kernel
set_option maxRecDepth 20000 in
theorem dX1_exchange_21 : decode cX1_exchange 21 = .ok (.iaload, 1) := by decide +kernel
set_option maxRecDepth 20000 in
theorem dX1_exchange_22 : decode cX1_exchange 22 = .ok (.istore_n 3, 1) := by decide +kernel
set_option maxRecDepth 20000 in
theorem dX1_exchange_23 : decode cX1_exchange 23 = .ok (.aload_n 0, 1) := by decide +kernel
set_option maxRecDepth 20000 in
theorem dX1_exchange_24 : decode cX1_exchange 24 = .ok (.getfield 9, 3) := by decide +kernel
set_option maxRecDepth 20000 in
theorem dX1_exchange_27 : decode cX1_exchange 27 = .ok (.iload_n 1, 1) := by decide +kernel
set_option maxRecDepth 20000 in
theorem dX1_exchange_28 : decode cX1_exchange 28 = .ok (.aload_n 0, 1) := by decide +kernel
set_option maxRecDepth 20000 in
theorem dX1_exchange_29 : decode cX1_exchange 29 = .ok (.getfield 9, 3) := by decide +kernel
set_option maxRecDepth 20000 in
theorem dX1_exchange_32 : decode cX1_exchange 32 = .ok (.iload_n 2, 1) := by decide +kernel
set_option maxRecDepth 20000 in
theorem dX1_exchange_33 : decode cX1_exchange 33 = .ok (.iaload, 1) := by decide +kernel
set_option maxRecDepth 20000 in
theorem dX1_exchange_34 : decode cX1_exchange 34 = .ok (.iastore, 1) := by decide +kernel
set_option maxRecDepth 20000 in
theorem dX1_exchange_35 : decode cX1_exchange 35 = .ok (.aload_n 0, 1) := by decide +kernel
set_option maxRecDepth 20000 in
theorem dX1_exchange_36 : decode cX1_exchange 36 = .ok (.getfield 9, 3) := by decide +kernel
set_option maxRecDepth 20000 in
theorem dX1_exchange_39 : decode cX1_exchange 39 = .ok (.iload_n 2, 1) := by decide +kernel
set_option maxRecDepth 20000 in
theorem dX1_exchange_40 : decode cX1_exchange 40 = .ok (.iload_n 3, 1) := by decide +kernel
set_option maxRecDepth 20000 in
theorem dX1_exchange_41 : decode cX1_exchange 41 = .ok (.iastore, 1) := by decide +kernel
set_option maxRecDepth 20000 in
theorem dX1_exchange_42 : decode cX1_exchange 42 = .ok (.return_, 1) := by decide +kernel
set_option maxRecDepth 20000 in
theorem dX1_copyFrom_0 : decode cX1_copyFrom 0 = .ok (.iconst 0, 1) := by decide +kernel
set_option maxRecDepth 20000 in
theorem dX1_copyFrom_1 : decode cX1_copyFrom 1 = .ok (.istore_n 2, 1) := by decide +kernel
set_option maxRecDepth 20000 in
theorem dX1_copyFrom_2 : decode cX1_copyFrom 2 = .ok (.iload_n 2, 1) := by decide +kernel
set_option maxRecDepth 20000 in
theorem dX1_copyFrom_3 : decode cX1_copyFrom 3 = .ok (.aload_n 0, 1) := by decide +kernel
set_option maxRecDepth 20000 in
theorem dX1_copyFrom_4 : decode cX1_copyFrom 4 = .ok (.getfield 24, 3) := by decide +kernel
set_option maxRecDepth 20000 in
theorem dX1_copyFrom_7 : decode cX1_copyFrom 7 = .ok (.if_icmp .ge 21, 3) := by decide +kernel
set_option maxRecDepth 20000 in
theorem dX1_copyFrom_10 : decode cX1_copyFrom 10 = .ok (.aload_n 0, 1) := by decide +kernel
set_option maxRecDepth 20000 in
theorem dX1_copyFrom_11 : decode cX1_copyFrom 11 = .ok (.getfield 9, 3) := by decide +kernel
set_option maxRecDepth 20000 in
theorem dX1_copyFrom_14 : decode cX1_copyFrom 14 = .ok (.iload_n 2, 1) := by decide +kernel
set_option maxRecDepth 20000 in
theorem dX1_copyFrom_15 : decode cX1_copyFrom 15 = .ok (.aload_n 1, 1) := by decide +kernel
set_option maxRecDepth 20000 in
theorem dX1_copyFrom_16 : decode cX1_copyFrom 16 = .ok (.getfield 9, 3) := by decide +kernel
set_option maxRecDepth 20000 in
theorem dX1_copyFrom_19 : decode cX1_copyFrom 19 = .ok (.iload_n 2, 1) := by decide +kernel
set_option maxRecDepth 20000 in
theorem dX1_copyFrom_20 : decode cX1_copyFrom 20 = .ok (.iaload, 1) := by decide +kernel
set_option maxRecDepth 20000 in
theorem dX1_copyFrom_21 : decode cX1_copyFrom 21 = .ok (.iastore, 1) := by decide +kernel
set_option maxRecDepth 20000 in
theorem dX1_copyFrom_22 : decode cX1_copyFrom 22 = .ok (.iinc 2 1, 3) := by decide +kernel
set_option maxRecDepth 20000 in
theorem dX1_copyFrom_25 : decode cX1_copyFrom 25 = .ok (.goto (-23), 3) := by decide +kernel
set_option maxRecDepth 20000 in
theorem dX1_copyFrom_28 : decode cX1_copyFrom 28 = .ok (.return_, 1) := by decide +kernel
set_option maxRecDepth 20000 in
theorem dX1_goOnBy_0 : decode cX1_goOnBy 0 = .ok (.iconst 0, 1) := by decide +kernel
set_option maxRecDepth 20000 in
theorem dX1_goOnBy_1 : decode cX1_goOnBy 1 = .ok (.istore_n 2, 1) := by decide +kernel
set_option maxRecDepth 20000 in
theorem dX1_goOnBy_2 : decode cX1_goOnBy 2 = .ok (.iload_n 2, 1) := by decide +kernel
set_option maxRecDepth 20000 in
theorem dX1_goOnBy_3 : decode cX1_goOnBy 3 = .ok (.aload_n 0, 1) := by decide +kernel
set_option maxRecDepth 20000 in
theorem dX1_goOnBy_4 : decode cX1_goOnBy 4 = .ok (.getfield 24, 3) := by decide +kernel
set_option maxRecDepth 20000 in
theorem dX1_goOnBy_7 : decode cX1_goOnBy 7 = .ok (.if_icmp .ge 25, 3) := by decide +kernel
set_option maxRecDepth 20000 in
theorem dX1_goOnBy_10 : decode cX1_goOnBy 10 = .ok (.aload_n 0, 1) := by decide +kernel
set_option maxRecDepth 20000 in
theorem dX1_goOnBy_11 : decode cX1_goOnBy 11 = .ok (.getfield 9, 3) := by decide +kernel
set_option maxRecDepth 20000 in
theorem dX1_goOnBy_14 : decode cX1_goOnBy 14 = .ok (.iload_n 2, 1) := by decide +kernel
set_option maxRecDepth 20000 in
theorem dX1_goOnBy_15 : decode cX1_goOnBy 15 = .ok (.aload_n 1, 1) := by decide +kernel
set_option maxRecDepth 20000 in
theorem dX1_goOnBy_16 : decode cX1_goOnBy 16 = .ok (.aload_n 0, 1) := by decide +kernel
set_option maxRecDepth 20000 in
theorem dX1_goOnBy_17 : decode cX1_goOnBy 17 = .ok (.getfield 9, 3) := by decide +kernel
set_option maxRecDepth 20000 in
theorem dX1_goOnBy_20 : decode cX1_goOnBy 20 = .ok (.iload_n 2, 1) := by decide +kernel
set_option maxRecDepth 20000 in
theorem dX1_goOnBy_21 : decode cX1_goOnBy 21 = .ok (.iaload, 1) := by decide +kernel
set_option maxRecDepth 20000 in
theorem dX1_goOnBy_22 : decode cX1_goOnBy 22 = .ok (.invokevirtual 37, 3) := by decide +kernel
set_option maxRecDepth 20000 in
theorem dX1_goOnBy_25 : decode cX1_goOnBy 25 = .ok (.iastore, 1) := by decide +kernel
set_option maxRecDepth 20000 in
theorem dX1_goOnBy_26 : decode cX1_goOnBy 26 = .ok (.iinc 2 1, 3) := by decide +kernel
set_option maxRecDepth 20000 in
theorem dX1_goOnBy_29 : decode cX1_goOnBy 29 = .ok (.goto (-27), 3) := by decide +kernel
set_option maxRecDepth 20000 in
theorem dX1_goOnBy_32 : decode cX1_goOnBy 32 = .ok (.return_, 1) := by decide +kernel
set_option maxRecDepth 20000 in
theorem dX1_turnBack_0 : decode cX1_turnBack 0 = .ok (.iconst 0, 1) := by decide +kernel
set_option maxRecDepth 20000 in
theorem dX1_turnBack_1 : decode cX1_turnBack 1 = .ok (.istore_n 1, 1) := by decide +kernel
set_option maxRecDepth 20000 in
theorem dX1_turnBack_2 : decode cX1_turnBack 2 = .ok (.iload_n 1, 1) := by decide +kernel
set_option maxRecDepth 20000 in
theorem dX1_turnBack_3 : decode cX1_turnBack 3 = .ok (.aload_n 0, 1) := by decide +kernel
set_option maxRecDepth 20000 in
theorem dX1_turnBack_4 : decode cX1_turnBack 4 = .ok (.getfield 24, 3) := by decide +kernel
set_option maxRecDepth 20000 in
theorem dX1_turnBack_7 : decode cX1_turnBack 7 = .ok (.if_icmp .ge 20, 3) := by decide +kernel
set_option maxRecDepth 20000 in
theorem dX1_turnBack_10 : decode cX1_turnBack 10 = .ok (.aload_n 0, 1) := by decide +kernel
set_option maxRecDepth 20000 in
theorem dX1_turnBack_11 : decode cX1_turnBack 11 = .ok (.aload_n 0, 1) := by decide +kernel
set_option maxRecDepth 20000 in
theorem dX1_turnBack_12 : decode cX1_turnBack 12 = .ok (.getfield 9, 3) := by decide +kernel
set_option maxRecDepth 20000 in
theorem dX1_turnBack_15 : decode cX1_turnBack 15 = .ok (.iload_n 1, 1) := by decide +kernel
set_option maxRecDepth 20000 in
theorem dX1_turnBack_16 : decode cX1_turnBack 16 = .ok (.iaload, 1) := by decide +kernel
set_option maxRecDepth 20000 in
theorem dX1_turnBack_17 : decode cX1_turnBack 17 = .ok (.iload_n 1, 1) := by decide +kernel
set_option maxRecDepth 20000 in
theorem dX1_turnBack_18 : decode cX1_turnBack 18 = .ok (.invokevirtual 41, 3) := by decide +kernel
set_option maxRecDepth 20000 in
theorem dX1_turnBack_21 : decode cX1_turnBack 21 = .ok (.iinc 1 1, 3) := by decide +kernel
set_option maxRecDepth 20000 in
theorem dX1_turnBack_24 : decode cX1_turnBack 24 = .ok (.goto (-22), 3) := by decide +kernel
set_option maxRecDepth 20000 in
theorem dX1_turnBack_27 : decode cX1_turnBack 27 = .ok (.aload_n 0, 1) := by decide +kernel
set_option maxRecDepth 20000 in
theorem dX1_turnBack_28 : decode cX1_turnBack 28 = .ok (.invokevirtual 34, 3) := by decide +kernel
set_option maxRecDepth 20000 in
theorem dX1_turnBack_31 : decode cX1_turnBack 31 = .ok (.return_, 1) := by decide +kernel
set_option maxRecDepth 20000 in
theorem dX1_makeRounds_0 : decode cX1_makeRounds 0 = .ok (.aload_n 0, 1) := by decide +kernel
set_option maxRecDepth 20000 in
theorem dX1_makeRounds_1 : decode cX1_makeRounds 1 = .ok (.getfield 9, 3) := by decide +kernel
set_option maxRecDepth 20000 in
theorem dX1_makeRounds_4 : decode cX1_makeRounds 4 = .ok (.iconst 0, 1) := by decide +kernel
set_option maxRecDepth 20000 in
theorem dX1_makeRounds_5 : decode cX1_makeRounds 5 = .ok (.iaload, 1) := by decide +kernel
set_option maxRecDepth 20000 in
theorem dX1_makeRounds_6 : decode cX1_makeRounds 6 = .ok (.istore_n 1, 1) := by decide +kernel
set_option maxRecDepth 20000 in
theorem dX1_makeRounds_7 : decode cX1_makeRounds 7 = .ok (.iconst 0, 1) := by decide +kernel
set_option maxRecDepth 20000 in
theorem dX1_makeRounds_8 : decode cX1_makeRounds 8 = .ok (.istore_n 2, 1) := by decide +kernel
set_option maxRecDepth 20000 in
theorem dX1_makeRounds_9 : decode cX1_makeRounds 9 = .ok (.iload_n 2, 1) := by decide +kernel
set_option maxRecDepth 20000 in
theorem dX1_makeRounds_10 : decode cX1_makeRounds 10 = .ok (.iconst 1, 1) := by decide +kernel
set_option maxRecDepth 20000 in
theorem dX1_makeRounds_11 : decode cX1_makeRounds 11 = .ok (.iadd, 1) := by decide +kernel
set_option maxRecDepth 20000 in
theorem dX1_makeRounds_12 : decode cX1_makeRounds 12 = .ok (.aload_n 0, 1) := by decide +kernel
set_option maxRecDepth 20000 in
theorem dX1_makeRounds_13 : decode cX1_makeRounds 13 = .ok (.getfield 24, 3) := by decide +kernel
set_option maxRecDepth 20000 in
theorem dX1_makeRounds_16 : decode cX1_makeRounds 16 = .ok (.if_icmp .ge 44, 3) := by decide +kernel
set_option maxRecDepth 20000 in
theorem dX1_makeRounds_19 : decode cX1_makeRounds 19 = .ok (.aload_n 0, 1) := by decide +kernel
set_option maxRecDepth 20000 in
theorem dX1_makeRounds_20 : decode cX1_makeRounds 20 = .ok (.getfield 9, 3) := by decide +kernel
set_option maxRecDepth 20000 in
theorem dX1_makeRounds_23 : decode cX1_makeRounds 23 = .ok (.iload_n 2, 1) := by decide +kernel
set_option maxRecDepth 20000 in
theorem dX1_makeRounds_24 : decode cX1_makeRounds 24 = .ok (.iconst 1, 1) := by decide +kernel
set_option maxRecDepth 20000 in
theorem dX1_makeRounds_25 : decode cX1_makeRounds 25 = .ok (.iadd, 1) := by decide +kernel
set_option maxRecDepth 20000 in
theorem dX1_makeRounds_26 : decode cX1_makeRounds 26 = .ok (.iaload, 1) := by decide +kernel
set_option maxRecDepth 20000 in
theorem dX1_makeRounds_27 : decode cX1_makeRounds 27 = .ok (.istore_n 3, 1) := by decide +kernel
set_option maxRecDepth 20000 in
theorem dX1_makeRounds_28 : decode cX1_makeRounds 28 = .ok (.aload_n 0, 1) := by decide +kernel
set_option maxRecDepth 20000 in
theorem dX1_makeRounds_29 : decode cX1_makeRounds 29 = .ok (.aload_n 0, 1) := by decide +kernel
set_option maxRecDepth 20000 in
theorem dX1_makeRounds_30 : decode cX1_makeRounds 30 = .ok (.getfield 9, 3) := by decide +kernel
set_option maxRecDepth 20000 in
theorem dX1_makeRounds_33 : decode cX1_makeRounds 33 = .ok (.iload_n 2, 1) := by decide +kernel
set_option maxRecDepth 20000 in
theorem dX1_makeRounds_34 : decode cX1_makeRounds 34 = .ok (.iaload, 1) := by decide +kernel
set_option maxRecDepth 20000 in
theorem dX1_makeRounds_35 : decode cX1_makeRounds 35 = .ok (.iload_n 3, 1) := by decide +kernel
set_option maxRecDepth 20000 in
theorem dX1_makeRounds_36 : decode cX1_makeRounds 36 = .ok (.iload_n 1, 1) := by decide +kernel
set_option maxRecDepth 20000 in
theorem dX1_makeRounds_37 : decode cX1_makeRounds 37 = .ok (.if_icmp .le 7, 3) := by decide +kernel
set_option maxRecDepth 20000 in
theorem dX1_makeRounds_40 : decode cX1_makeRounds 40 = .ok (.iload_n 1, 1) := by decide +kernel
set_option maxRecDepth 20000 in
theorem dX1_makeRounds_41 : decode cX1_makeRounds 41 = .ok (.goto 4, 3) := by decide +kernel
set_option maxRecDepth 20000 in
theorem dX1_makeRounds_44 : decode cX1_makeRounds 44 = .ok (.iload_n 3, 1) := by decide +kernel
set_option maxRecDepth 20000 in
theorem dX1_makeRounds_45 : decode cX1_makeRounds 45 = .ok (.invokevirtual 41, 3) := by decide +kernel
set_option maxRecDepth 20000 in
theorem dX1_makeRounds_48 : decode cX1_makeRounds 48 = .ok (.iload_n 1, 1) := by decide +kernel
set_option maxRecDepth 20000 in
theorem dX1_makeRounds_49 : decode cX1_makeRounds 49 = .ok (.iload_n 3, 1) := by decide +kernel
set_option maxRecDepth 20000 in
theorem dX1_makeRounds_50 : decode cX1_makeRounds 50 = .ok (.invokestatic 45, 3) := by decide +kernel
set_option maxRecDepth 20000 in
theorem dX1_makeRounds_53 : decode cX1_makeRounds 53 = .ok (.istore_n 1, 1) := by decide +kernel
set_option maxRecDepth 20000 in
theorem dX1_makeRounds_54 : decode cX1_makeRounds 54 = .ok (.iinc 2 1, 3) := by decide +kernel
set_option maxRecDepth 20000 in
theorem dX1_makeRounds_57 : decode cX1_makeRounds 57 = .ok (.goto (-48), 3) := by decide +kernel
set_option maxRecDepth 20000 in
theorem dX1_makeRounds_60 : decode cX1_makeRounds 60 = .ok (.aload_n 0, 1) := by decide +kernel
set_option maxRecDepth 20000 in
theorem dX1_makeRounds_61 : decode cX1_makeRounds 61 = .ok (.aload_n 0, 1) := by decide +kernel
set_option maxRecDepth 20000 in
theorem dX1_makeRounds_62 : decode cX1_makeRounds 62 = .ok (.aload_n 0, 1) := by decide +kernel
set_option maxRecDepth 20000 in
theorem dX1_makeRounds_63 : decode cX1_makeRounds 63 = .ok (.getfield 24, 3) := by decide +kernel
set_option maxRecDepth 20000 in
theorem dX1_makeRounds_66 : decode cX1_makeRounds 66 = .ok (.iconst 1, 1) := by decide +kernel
set_option maxRecDepth 20000 in
theorem dX1_makeRounds_67 : decode cX1_makeRounds 67 = .ok (.isub, 1) := by decide +kernel
set_option maxRecDepth 20000 in
theorem dX1_makeRounds_68 : decode cX1_makeRounds 68 = .ok (.invokevirtual 37, 3) := by decide +kernel
set_option maxRecDepth 20000 in
theorem dX1_makeRounds_71 : decode cX1_makeRounds 71 = .ok (.iload_n 1, 1) := by decide +kernel
set_option maxRecDepth 20000 in
theorem dX1_makeRounds_72 : decode cX1_makeRounds 72 = .ok (.invokevirtual 41, 3) := by decide +kernel
set_option maxRecDepth 20000 in
theorem dX1_makeRounds_75 : decode cX1_makeRounds 75 = .ok (.aload_n 0, 1) := by decide +kernel
set_option maxRecDepth 20000 in
theorem dX1_makeRounds_76 : decode cX1_makeRounds 76 = .ok (.invokevirtual 34, 3) := by decide +kernel
set_option maxRecDepth 20000 in
theorem dX1_makeRounds_79 : decode cX1_makeRounds 79 = .ok (.return_, 1) := by decide +kernel
set_option maxRecDepth 20000 in
theorem dX1_makeRecords_0 : decode cX1_makeRecords 0 = .ok (.iconst 0, 1) := by decide +kernel
set_option maxRecDepth 20000 in
theorem dX1_makeRecords_1 : decode cX1_makeRecords 1 = .ok (.istore_n 1, 1) := by decide +kernel
set_option maxRecDepth 20000 in
theorem dX1_makeRecords_2 : decode cX1_makeRecords 2 = .ok (.iconst 0, 1) := by decide +kernel
set_option maxRecDepth 20000 in
theorem dX1_makeRecords_3 : decode cX1_makeRecords 3 = .ok (.istore_n 2, 1) := by decide +kernel
set_option maxRecDepth 20000 in
theorem dX1_makeRecords_4 : decode cX1_makeRecords 4 = .ok (.iload_n 2, 1) := by decide +kernel
set_option maxRecDepth 20000 in
theorem dX1_makeRecords_5 : decode cX1_makeRecords 5 = .ok (.aload_n 0, 1) := by decide +kernel
set_option maxRecDepth 20000 in
theorem dX1_makeRecords_6 : decode cX1_makeRecords 6 = .ok (.getfield 24, 3) := by decide +kernel
set_option maxRecDepth 20000 in
theorem dX1_makeRecords_9 : decode cX1_makeRecords 9 = .ok (.if_icmp .ge 55, 3) := by decide +kernel
set_option maxRecDepth 20000 in
theorem dX1_makeRecords_12 : decode cX1_makeRecords 12 = .ok (.aload_n 0, 1) := by decide +kernel
set_option maxRecDepth 20000 in
theorem dX1_makeRecords_13 : decode cX1_makeRecords 13 = .ok (.iload_n 2, 1) := by decide +kernel
set_option maxRecDepth 20000 in
theorem dX1_makeRecords_14 : decode cX1_makeRecords 14 = .ok (.invokevirtual 48, 3) := by decide +kernel
set_option maxRecDepth 20000 in
theorem dX1_makeRecords_17 : decode cX1_makeRecords 17 = .ok (.ifCond .ne 6, 3) := by decide +kernel
set_option maxRecDepth 20000 in
theorem dX1_makeRecords_20 : decode cX1_makeRecords 20 = .ok (.goto 38, 3) := by decide +kernel
set_option maxRecDepth 20000 in
theorem dX1_makeRecords_23 : decode cX1_makeRecords 23 = .ok (.iload_n 2, 1) := by decide +kernel
set_option maxRecDepth 20000 in
theorem dX1_makeRecords_24 : decode cX1_makeRecords 24 = .ok (.istore_n 3, 1) := by decide +kernel
set_option maxRecDepth 20000 in
theorem dX1_makeRecords_25 : decode cX1_makeRecords 25 = .ok (.aload_n 0, 1) := by decide +kernel
set_option maxRecDepth 20000 in
theorem dX1_makeRecords_26 : decode cX1_makeRecords 26 = .ok (.iload_n 2, 1) := by decide +kernel
set_option maxRecDepth 20000 in
theorem dX1_makeRecords_27 : decode cX1_makeRecords 27 = .ok (.invokevirtual 51, 3) := by decide +kernel
set_option maxRecDepth 20000 in
theorem dX1_makeRecords_30 : decode cX1_makeRecords 30 = .ok (.istore 4, 2) := by decide +kernel
set_option maxRecDepth 20000 in
theorem dX1_makeRecords_32 : decode cX1_makeRecords 32 = .ok (.iload 4, 2) := by decide +kernel
set_option maxRecDepth 20000 in
theorem dX1_makeRecords_34 : decode cX1_makeRecords 34 = .ok (.ifCond .le 24, 3) := by decide +kernel
set_option maxRecDepth 20000 in
theorem dX1_makeRecords_37 : decode cX1_makeRecords 37 = .ok (.aload_n 0, 1) := by decide +kernel
set_option maxRecDepth 20000 in
theorem dX1_makeRecords_38 : decode cX1_makeRecords 38 = .ok (.iload_n 1, 1) := by decide +kernel
set_option maxRecDepth 20000 in
theorem dX1_makeRecords_39 : decode cX1_makeRecords 39 = .ok (.iload_n 3, 1) := by decide +kernel
set_option maxRecDepth 20000 in
theorem dX1_makeRecords_40 : decode cX1_makeRecords 40 = .ok (.invokevirtual 41, 3) := by decide +kernel
set_option maxRecDepth 20000 in
theorem dX1_makeRecords_43 : decode cX1_makeRecords 43 = .ok (.iinc 1 1, 3) := by decide +kernel
set_option maxRecDepth 20000 in
theorem dX1_makeRecords_46 : decode cX1_makeRecords 46 = .ok (.aload_n 0, 1) := by decide +kernel
set_option maxRecDepth 20000 in
theorem dX1_makeRecords_47 : decode cX1_makeRecords 47 = .ok (.iload_n 3, 1) := by decide +kernel
set_option maxRecDepth 20000 in
theorem dX1_makeRecords_48 : decode cX1_makeRecords 48 = .ok (.invokevirtual 37, 3) := by decide +kernel
set_option maxRecDepth 20000 in
theorem dX1_makeRecords_51 : decode cX1_makeRecords 51 = .ok (.istore_n 3, 1) := by decide +kernel
set_option maxRecDepth 20000 in
theorem dX1_makeRecords_52 : decode cX1_makeRecords 52 = .ok (.iinc 4 (-1), 3) := by decide +kernel
set_option maxRecDepth 20000 in
theorem dX1_makeRecords_55 : decode cX1_makeRecords 55 = .ok (.goto (-23), 3) := by decide +kernel
set_option maxRecDepth 20000 in
theorem dX1_makeRecords_58 : decode cX1_makeRecords 58 = .ok (.iinc 2 1, 3) := by decide +kernel
set_option maxRecDepth 20000 in
theorem dX1_makeRecords_61 : decode cX1_makeRecords 61 = .ok (.goto (-57), 3) := by decide +kernel
set_option maxRecDepth 20000 in
theorem dX1_makeRecords_64 : decode cX1_makeRecords 64 = .ok (.aload_n 0, 1) := by decide +kernel
set_option maxRecDepth 20000 in
theorem dX1_makeRecords_65 : decode cX1_makeRecords 65 = .ok (.invokevirtual 34, 3) := by decide +kernel
set_option maxRecDepth 20000 in
theorem dX1_makeRecords_68 : decode cX1_makeRecords 68 = .ok (.return_, 1) := by decide +kernel
set_option maxRecDepth 20000 in
theorem dX1_roundLength_0 : decode cX1_roundLength 0 = .ok (.aload_n 0, 1) := by decide +kernel
set_option maxRecDepth 20000 in
theorem dX1_roundLength_1 : decode cX1_roundLength 1 = .ok (.iload_n 1, 1) := by decide +kernel
set_option maxRecDepth 20000 in
theorem dX1_roundLength_2 : decode cX1_roundLength 2 = .ok (.invokevirtual 37, 3) := by decide +kernel
set_option maxRecDepth 20000 in
theorem dX1_roundLength_5 : decode cX1_roundLength 5 = .ok (.istore_n 2, 1) := by decide +kernel
set_option maxRecDepth 20000 in
theorem dX1_roundLength_6 : decode cX1_roundLength 6 = .ok (.iconst 1, 1) := by decide +kernel
set_option maxRecDepth 20000 in
theorem dX1_roundLength_7 : decode cX1_roundLength 7 = .ok (.istore_n 3, 1) := by decide +kernel
set_option maxRecDepth 20000 in
theorem dX1_roundLength_8 : decode cX1_roundLength 8 = .ok (.iload_n 2, 1) := by decide +kernel
set_option maxRecDepth 20000 in
theorem dX1_roundLength_9 : decode cX1_roundLength 9 = .ok (.iload_n 1, 1) := by decide +kernel
set_option maxRecDepth 20000 in
theorem dX1_roundLength_10 : decode cX1_roundLength 10 = .ok (.if_icmp .eq 23, 3) := by decide +kernel
set_option maxRecDepth 20000 in
theorem dX1_roundLength_13 : decode cX1_roundLength 13 = .ok (.iload_n 3, 1) := by decide +kernel
set_option maxRecDepth 20000 in
theorem dX1_roundLength_14 : decode cX1_roundLength 14 = .ok (.aload_n 0, 1) := by decide +kernel
set_option maxRecDepth 20000 in
theorem dX1_roundLength_15 : decode cX1_roundLength 15 = .ok (.getfield 24, 3) := by decide +kernel
set_option maxRecDepth 20000 in
theorem dX1_roundLength_18 : decode cX1_roundLength 18 = .ok (.if_icmp .ge 15, 3) := by decide +kernel
set_option maxRecDepth 20000 in
theorem dX1_roundLength_21 : decode cX1_roundLength 21 = .ok (.aload_n 0, 1) := by decide +kernel
set_option maxRecDepth 20000 in
theorem dX1_roundLength_22 : decode cX1_roundLength 22 = .ok (.iload_n 2, 1) := by decide +kernel
set_option maxRecDepth 20000 in
theorem dX1_roundLength_23 : decode cX1_roundLength 23 = .ok (.invokevirtual 37, 3) := by decide +kernel
set_option maxRecDepth 20000 in
theorem dX1_roundLength_26 : decode cX1_roundLength 26 = .ok (.istore_n 2, 1) := by decide +kernel
set_option maxRecDepth 20000 in
theorem dX1_roundLength_27 : decode cX1_roundLength 27 = .ok (.iinc 3 1, 3) := by decide +kernel
set_option maxRecDepth 20000 in
theorem dX1_roundLength_30 : decode cX1_roundLength 30 = .ok (.goto (-22), 3) := by decide +kernel
set_option maxRecDepth 20000 in
theorem dX1_roundLength_33 : decode cX1_roundLength 33 = .ok (.iload_n 3, 1) := by decide +kernel
set_option maxRecDepth 20000 in
theorem dX1_roundLength_34 : decode cX1_roundLength 34 = .ok (.ireturn, 1) := by decide +kernel
set_option maxRecDepth 20000 in
theorem dX1_leadsRound_0 : decode cX1_leadsRound 0 = .ok (.aload_n 0, 1) := by decide +kernel
set_option maxRecDepth 20000 in
theorem dX1_leadsRound_1 : decode cX1_leadsRound 1 = .ok (.iload_n 1, 1) := by decide +kernel
set_option maxRecDepth 20000 in
theorem dX1_leadsRound_2 : decode cX1_leadsRound 2 = .ok (.invokevirtual 37, 3) := by decide +kernel
set_option maxRecDepth 20000 in
theorem dX1_leadsRound_5 : decode cX1_leadsRound 5 = .ok (.istore_n 2, 1) := by decide +kernel
set_option maxRecDepth 20000 in
theorem dX1_leadsRound_6 : decode cX1_leadsRound 6 = .ok (.iconst 0, 1) := by decide +kernel
set_option maxRecDepth 20000 in
theorem dX1_leadsRound_7 : decode cX1_leadsRound 7 = .ok (.istore_n 3, 1) := by decide +kernel
set_option maxRecDepth 20000 in
theorem dX1_leadsRound_8 : decode cX1_leadsRound 8 = .ok (.iload_n 3, 1) := by decide +kernel
set_option maxRecDepth 20000 in
theorem dX1_leadsRound_9 : decode cX1_leadsRound 9 = .ok (.aload_n 0, 1) := by decide +kernel
set_option maxRecDepth 20000 in
theorem dX1_leadsRound_10 : decode cX1_leadsRound 10 = .ok (.getfield 24, 3) := by decide +kernel
set_option maxRecDepth 20000 in
theorem dX1_leadsRound_13 : decode cX1_leadsRound 13 = .ok (.if_icmp .ge 20, 3) := by decide +kernel
set_option maxRecDepth 20000 in
theorem dX1_leadsRound_16 : decode cX1_leadsRound 16 = .ok (.iload_n 2, 1) := by decide +kernel
set_option maxRecDepth 20000 in
theorem dX1_leadsRound_17 : decode cX1_leadsRound 17 = .ok (.iload_n 1, 1) := by decide +kernel
set_option maxRecDepth 20000 in
theorem dX1_leadsRound_18 : decode cX1_leadsRound 18 = .ok (.if_icmp .ge 15, 3) := by decide +kernel
set_option maxRecDepth 20000 in
theorem dX1_leadsRound_21 : decode cX1_leadsRound 21 = .ok (.aload_n 0, 1) := by decide +kernel
set_option maxRecDepth 20000 in
theorem dX1_leadsRound_22 : decode cX1_leadsRound 22 = .ok (.iload_n 2, 1) := by decide +kernel
set_option maxRecDepth 20000 in
theorem dX1_leadsRound_23 : decode cX1_leadsRound 23 = .ok (.invokevirtual 37, 3) := by decide +kernel
set_option maxRecDepth 20000 in
theorem dX1_leadsRound_26 : decode cX1_leadsRound 26 = .ok (.istore_n 2, 1) := by decide +kernel
set_option maxRecDepth 20000 in
theorem dX1_leadsRound_27 : decode cX1_leadsRound 27 = .ok (.iinc 3 1, 3) := by decide +kernel
set_option maxRecDepth 20000 in
theorem dX1_leadsRound_30 : decode cX1_leadsRound 30 = .ok (.goto (-22), 3) := by decide +kernel
set_option maxRecDepth 20000 in
theorem dX1_leadsRound_33 : decode cX1_leadsRound 33 = .ok (.iload_n 2, 1) := by decide +kernel
set_option maxRecDepth 20000 in
theorem dX1_leadsRound_34 : decode cX1_leadsRound 34 = .ok (.iload_n 1, 1) := by decide +kernel
set_option maxRecDepth 20000 in
theorem dX1_leadsRound_35 : decode cX1_leadsRound 35 = .ok (.if_icmp .ne 7, 3) := by decide +kernel
set_option maxRecDepth 20000 in
theorem dX1_leadsRound_38 : decode cX1_leadsRound 38 = .ok (.iconst 1, 1) := by decide +kernel
set_option maxRecDepth 20000 in
theorem dX1_leadsRound_39 : decode cX1_leadsRound 39 = .ok (.goto 4, 3) := by decide +kernel
set_option maxRecDepth 20000 in
theorem dX1_leadsRound_42 : decode cX1_leadsRound 42 = .ok (.iconst 0, 1) := by decide +kernel
set_option maxRecDepth 20000 in
theorem dX1_leadsRound_43 : decode cX1_leadsRound 43 = .ok (.ireturn, 1) := by decide +kernel
set_option maxRecDepth 20000 in
theorem dX1_numberOf_0 : decode cX1_numberOf 0 = .ok (.iload_n 1, 1) := by decide +kernel
set_option maxRecDepth 20000 in
theorem dX1_numberOf_1 : decode cX1_numberOf 1 = .ok (.tableswitch 87 0 7 #[47, 52, 57, 62, 67, 72, 77, 82], 47) := by decide +kernel
set_option maxRecDepth 20000 in
theorem dX1_numberOf_48 : decode cX1_numberOf 48 = .ok (.aload_n 0, 1) := by decide +kernel
set_option maxRecDepth 20000 in
theorem dX1_numberOf_49 : decode cX1_numberOf 49 = .ok (.invokevirtual 54, 3) := by decide +kernel
set_option maxRecDepth 20000 in
theorem dX1_numberOf_52 : decode cX1_numberOf 52 = .ok (.ireturn, 1) := by decide +kernel
set_option maxRecDepth 20000 in
theorem dX1_numberOf_53 : decode cX1_numberOf 53 = .ok (.aload_n 0, 1) := by decide +kernel
set_option maxRecDepth 20000 in
theorem dX1_numberOf_54 : decode cX1_numberOf 54 = .ok (.invokevirtual 58, 3) := by decide +kernel
set_option maxRecDepth 20000 in
theorem dX1_numberOf_57 : decode cX1_numberOf 57 = .ok (.ireturn, 1) := by decide +kernel
set_option maxRecDepth 20000 in
theorem dX1_numberOf_58 : decode cX1_numberOf 58 = .ok (.aload_n 0, 1) := by decide +kernel
set_option maxRecDepth 20000 in
theorem dX1_numberOf_59 : decode cX1_numberOf 59 = .ok (.invokevirtual 61, 3) := by decide +kernel
set_option maxRecDepth 20000 in
theorem dX1_numberOf_62 : decode cX1_numberOf 62 = .ok (.ireturn, 1) := by decide +kernel
set_option maxRecDepth 20000 in
theorem dX1_numberOf_63 : decode cX1_numberOf 63 = .ok (.aload_n 0, 1) := by decide +kernel
set_option maxRecDepth 20000 in
theorem dX1_numberOf_64 : decode cX1_numberOf 64 = .ok (.invokevirtual 64, 3) := by decide +kernel
set_option maxRecDepth 20000 in
theorem dX1_numberOf_67 : decode cX1_numberOf 67 = .ok (.ireturn, 1) := by decide +kernel
set_option maxRecDepth 20000 in
theorem dX1_numberOf_68 : decode cX1_numberOf 68 = .ok (.aload_n 0, 1) := by decide +kernel
set_option maxRecDepth 20000 in
theorem dX1_numberOf_69 : decode cX1_numberOf 69 = .ok (.invokevirtual 67, 3) := by decide +kernel
set_option maxRecDepth 20000 in
theorem dX1_numberOf_72 : decode cX1_numberOf 72 = .ok (.ireturn, 1) := by decide +kernel
set_option maxRecDepth 20000 in
theorem dX1_numberOf_73 : decode cX1_numberOf 73 = .ok (.aload_n 0, 1) := by decide +kernel
set_option maxRecDepth 20000 in
theorem dX1_numberOf_74 : decode cX1_numberOf 74 = .ok (.invokevirtual 70, 3) := by decide +kernel
set_option maxRecDepth 20000 in
theorem dX1_numberOf_77 : decode cX1_numberOf 77 = .ok (.ireturn, 1) := by decide +kernel
set_option maxRecDepth 20000 in
theorem dX1_numberOf_78 : decode cX1_numberOf 78 = .ok (.aload_n 0, 1) := by decide +kernel
set_option maxRecDepth 20000 in
theorem dX1_numberOf_79 : decode cX1_numberOf 79 = .ok (.invokevirtual 73, 3) := by decide +kernel
set_option maxRecDepth 20000 in
theorem dX1_numberOf_82 : decode cX1_numberOf 82 = .ok (.ireturn, 1) := by decide +kernel
set_option maxRecDepth 20000 in
theorem dX1_numberOf_83 : decode cX1_numberOf 83 = .ok (.aload_n 0, 1) := by decide +kernel
set_option maxRecDepth 20000 in
theorem dX1_numberOf_84 : decode cX1_numberOf 84 = .ok (.invokevirtual 76, 3) := by decide +kernel
set_option maxRecDepth 20000 in
theorem dX1_numberOf_87 : decode cX1_numberOf 87 = .ok (.ireturn, 1) := by decide +kernel
set_option maxRecDepth 20000 in
theorem dX1_numberOf_88 : decode cX1_numberOf 88 = .ok (.bipush (-2), 2) := by decide +kernel
set_option maxRecDepth 20000 in
theorem dX1_numberOf_90 : decode cX1_numberOf 90 = .ok (.ireturn, 1) := by decide +kernel
set_option maxRecDepth 20000 in
theorem dX1_rounds_0 : decode cX1_rounds 0 = .ok (.iconst 0, 1) := by decide +kernel
set_option maxRecDepth 20000 in
theorem dX1_rounds_1 : decode cX1_rounds 1 = .ok (.istore_n 1, 1) := by decide +kernel
set_option maxRecDepth 20000 in
theorem dX1_rounds_2 : decode cX1_rounds 2 = .ok (.iconst 0, 1) := by decide +kernel
set_option maxRecDepth 20000 in
theorem dX1_rounds_3 : decode cX1_rounds 3 = .ok (.istore_n 2, 1) := by decide +kernel
set_option maxRecDepth 20000 in
theorem dX1_rounds_4 : decode cX1_rounds 4 = .ok (.iload_n 2, 1) := by decide +kernel
set_option maxRecDepth 20000 in
theorem dX1_rounds_5 : decode cX1_rounds 5 = .ok (.aload_n 0, 1) := by decide +kernel
set_option maxRecDepth 20000 in
theorem dX1_rounds_6 : decode cX1_rounds 6 = .ok (.getfield 24, 3) := by decide +kernel
set_option maxRecDepth 20000 in
theorem dX1_rounds_9 : decode cX1_rounds 9 = .ok (.if_icmp .ge 20, 3) := by decide +kernel
set_option maxRecDepth 20000 in
theorem dX1_rounds_12 : decode cX1_rounds 12 = .ok (.aload_n 0, 1) := by decide +kernel
set_option maxRecDepth 20000 in
theorem dX1_rounds_13 : decode cX1_rounds 13 = .ok (.iload_n 2, 1) := by decide +kernel
set_option maxRecDepth 20000 in
theorem dX1_rounds_14 : decode cX1_rounds 14 = .ok (.invokevirtual 48, 3) := by decide +kernel
set_option maxRecDepth 20000 in
theorem dX1_rounds_17 : decode cX1_rounds 17 = .ok (.ifCond .eq 6, 3) := by decide +kernel
set_option maxRecDepth 20000 in
theorem dX1_rounds_20 : decode cX1_rounds 20 = .ok (.iinc 1 1, 3) := by decide +kernel
set_option maxRecDepth 20000 in
theorem dX1_rounds_23 : decode cX1_rounds 23 = .ok (.iinc 2 1, 3) := by decide +kernel
set_option maxRecDepth 20000 in
theorem dX1_rounds_26 : decode cX1_rounds 26 = .ok (.goto (-22), 3) := by decide +kernel
set_option maxRecDepth 20000 in
theorem dX1_rounds_29 : decode cX1_rounds 29 = .ok (.iload_n 1, 1) := by decide +kernel
set_option maxRecDepth 20000 in
theorem dX1_rounds_30 : decode cX1_rounds 30 = .ok (.ireturn, 1) := by decide +kernel
set_option maxRecDepth 20000 in
theorem dX1_records_0 : decode cX1_records 0 = .ok (.iconst 0, 1) := by decide +kernel
set_option maxRecDepth 20000 in
theorem dX1_records_1 : decode cX1_records 1 = .ok (.istore_n 1, 1) := by decide +kernel
set_option maxRecDepth 20000 in
theorem dX1_records_2 : decode cX1_records 2 = .ok (.iconst (-1), 1) := by decide +kernel
set_option maxRecDepth 20000 in
theorem dX1_records_3 : decode cX1_records 3 = .ok (.istore_n 2, 1) := by decide +kernel
set_option maxRecDepth 20000 in
theorem dX1_records_4 : decode cX1_records 4 = .ok (.iconst 0, 1) := by decide +kernel
set_option maxRecDepth 20000 in
theorem dX1_records_5 : decode cX1_records 5 = .ok (.istore_n 3, 1) := by decide +kernel
set_option maxRecDepth 20000 in
theorem dX1_records_6 : decode cX1_records 6 = .ok (.iload_n 3, 1) := by decide +kernel
set_option maxRecDepth 20000 in
theorem dX1_records_7 : decode cX1_records 7 = .ok (.aload_n 0, 1) := by decide +kernel
set_option maxRecDepth 20000 in
theorem dX1_records_8 : decode cX1_records 8 = .ok (.getfield 24, 3) := by decide +kernel
set_option maxRecDepth 20000 in
theorem dX1_records_11 : decode cX1_records 11 = .ok (.if_icmp .ge 29, 3) := by decide +kernel
set_option maxRecDepth 20000 in
theorem dX1_records_14 : decode cX1_records 14 = .ok (.aload_n 0, 1) := by decide +kernel
set_option maxRecDepth 20000 in
theorem dX1_records_15 : decode cX1_records 15 = .ok (.getfield 9, 3) := by decide +kernel
set_option maxRecDepth 20000 in
theorem dX1_records_18 : decode cX1_records 18 = .ok (.iload_n 3, 1) := by decide +kernel
set_option maxRecDepth 20000 in
theorem dX1_records_19 : decode cX1_records 19 = .ok (.iaload, 1) := by decide +kernel
set_option maxRecDepth 20000 in
theorem dX1_records_20 : decode cX1_records 20 = .ok (.iload_n 2, 1) := by decide +kernel
set_option maxRecDepth 20000 in
theorem dX1_records_21 : decode cX1_records 21 = .ok (.if_icmp .le 13, 3) := by decide +kernel
set_option maxRecDepth 20000 in
theorem dX1_records_24 : decode cX1_records 24 = .ok (.aload_n 0, 1) := by decide +kernel
set_option maxRecDepth 20000 in
theorem dX1_records_25 : decode cX1_records 25 = .ok (.getfield 9, 3) := by decide +kernel
set_option maxRecDepth 20000 in
theorem dX1_records_28 : decode cX1_records 28 = .ok (.iload_n 3, 1) := by decide +kernel
set_option maxRecDepth 20000 in
theorem dX1_records_29 : decode cX1_records 29 = .ok (.iaload, 1) := by decide +kernel
set_option maxRecDepth 20000 in
theorem dX1_records_30 : decode cX1_records 30 = .ok (.istore_n 2, 1) := by decide +kernel
set_option maxRecDepth 20000 in
theorem dX1_records_31 : decode cX1_records 31 = .ok (.iinc 1 1, 3) := by decide +kernel
set_option maxRecDepth 20000 in
theorem dX1_records_34 : decode cX1_records 34 = .ok (.iinc 3 1, 3) := by decide +kernel
set_option maxRecDepth 20000 in
theorem dX1_records_37 : decode cX1_records 37 = .ok (.goto (-31), 3) := by decide +kernel
set_option maxRecDepth 20000 in
theorem dX1_records_40 : decode cX1_records 40 = .ok (.iload_n 1, 1) := by decide +kernel
set_option maxRecDepth 20000 in
theorem dX1_records_41 : decode cX1_records 41 = .ok (.ireturn, 1) := by decide +kernel
set_option maxRecDepth 20000 in
theorem dX1_rises_0 : decode cX1_rises 0 = .ok (.iconst 0, 1) := by decide +kernel
set_option maxRecDepth 20000 in
theorem dX1_rises_1 : decode cX1_rises 1 = .ok (.istore_n 1, 1) := by decide +kernel
set_option maxRecDepth 20000 in
theorem dX1_rises_2 : decode cX1_rises 2 = .ok (.iconst 0, 1) := by decide +kernel
set_option maxRecDepth 20000 in
theorem dX1_rises_3 : decode cX1_rises 3 = .ok (.istore_n 2, 1) := by decide +kernel
set_option maxRecDepth 20000 in
theorem dX1_rises_4 : decode cX1_rises 4 = .ok (.iload_n 2, 1) := by decide +kernel
set_option maxRecDepth 20000 in
theorem dX1_rises_5 : decode cX1_rises 5 = .ok (.iconst 1, 1) := by decide +kernel
set_option maxRecDepth 20000 in
theorem dX1_rises_6 : decode cX1_rises 6 = .ok (.iadd, 1) := by decide +kernel
set_option maxRecDepth 20000 in
theorem dX1_rises_7 : decode cX1_rises 7 = .ok (.aload_n 0, 1) := by decide +kernel
set_option maxRecDepth 20000 in
theorem dX1_rises_8 : decode cX1_rises 8 = .ok (.getfield 24, 3) := by decide +kernel
set_option maxRecDepth 20000 in
theorem dX1_rises_11 : decode cX1_rises 11 = .ok (.if_icmp .ge 29, 3) := by decide +kernel
set_option maxRecDepth 20000 in
theorem dX1_rises_14 : decode cX1_rises 14 = .ok (.aload_n 0, 1) := by decide +kernel
set_option maxRecDepth 20000 in
theorem dX1_rises_15 : decode cX1_rises 15 = .ok (.getfield 9, 3) := by decide +kernel
set_option maxRecDepth 20000 in
theorem dX1_rises_18 : decode cX1_rises 18 = .ok (.iload_n 2, 1) := by decide +kernel
set_option maxRecDepth 20000 in
theorem dX1_rises_19 : decode cX1_rises 19 = .ok (.iaload, 1) := by decide +kernel
set_option maxRecDepth 20000 in
theorem dX1_rises_20 : decode cX1_rises 20 = .ok (.aload_n 0, 1) := by decide +kernel
set_option maxRecDepth 20000 in
theorem dX1_rises_21 : decode cX1_rises 21 = .ok (.getfield 9, 3) := by decide +kernel
set_option maxRecDepth 20000 in
theorem dX1_rises_24 : decode cX1_rises 24 = .ok (.iload_n 2, 1) := by decide +kernel
set_option maxRecDepth 20000 in
theorem dX1_rises_25 : decode cX1_rises 25 = .ok (.iconst 1, 1) := by decide +kernel
set_option maxRecDepth 20000 in
theorem dX1_rises_26 : decode cX1_rises 26 = .ok (.iadd, 1) := by decide +kernel
set_option maxRecDepth 20000 in
theorem dX1_rises_27 : decode cX1_rises 27 = .ok (.iaload, 1) := by decide +kernel
set_option maxRecDepth 20000 in
theorem dX1_rises_28 : decode cX1_rises 28 = .ok (.if_icmp .ge 6, 3) := by decide +kernel
set_option maxRecDepth 20000 in
theorem dX1_rises_31 : decode cX1_rises 31 = .ok (.iinc 1 1, 3) := by decide +kernel
set_option maxRecDepth 20000 in
theorem dX1_rises_34 : decode cX1_rises 34 = .ok (.iinc 2 1, 3) := by decide +kernel
set_option maxRecDepth 20000 in
theorem dX1_rises_37 : decode cX1_rises 37 = .ok (.goto (-33), 3) := by decide +kernel
set_option maxRecDepth 20000 in
theorem dX1_rises_40 : decode cX1_rises 40 = .ok (.iload_n 1, 1) := by decide +kernel
set_option maxRecDepth 20000 in
theorem dX1_rises_41 : decode cX1_rises 41 = .ok (.ireturn, 1) := by decide +kernel
set_option maxRecDepth 20000 in
theorem dX1_still_0 : decode cX1_still 0 = .ok (.iconst 0, 1) := by decide +kernel
set_option maxRecDepth 20000 in
theorem dX1_still_1 : decode cX1_still 1 = .ok (.istore_n 1, 1) := by decide +kernel
set_option maxRecDepth 20000 in
theorem dX1_still_2 : decode cX1_still 2 = .ok (.iconst 0, 1) := by decide +kernel
set_option maxRecDepth 20000 in
theorem dX1_still_3 : decode cX1_still 3 = .ok (.istore_n 2, 1) := by decide +kernel
set_option maxRecDepth 20000 in
theorem dX1_still_4 : decode cX1_still 4 = .ok (.iload_n 2, 1) := by decide +kernel
set_option maxRecDepth 20000 in
theorem dX1_still_5 : decode cX1_still 5 = .ok (.aload_n 0, 1) := by decide +kernel
set_option maxRecDepth 20000 in
theorem dX1_still_6 : decode cX1_still 6 = .ok (.getfield 24, 3) := by decide +kernel
set_option maxRecDepth 20000 in
theorem dX1_still_9 : decode cX1_still 9 = .ok (.if_icmp .ge 22, 3) := by decide +kernel
set_option maxRecDepth 20000 in
theorem dX1_still_12 : decode cX1_still 12 = .ok (.aload_n 0, 1) := by decide +kernel
set_option maxRecDepth 20000 in
theorem dX1_still_13 : decode cX1_still 13 = .ok (.getfield 9, 3) := by decide +kernel
set_option maxRecDepth 20000 in
theorem dX1_still_16 : decode cX1_still 16 = .ok (.iload_n 2, 1) := by decide +kernel
set_option maxRecDepth 20000 in
theorem dX1_still_17 : decode cX1_still 17 = .ok (.iaload, 1) := by decide +kernel
set_option maxRecDepth 20000 in
theorem dX1_still_18 : decode cX1_still 18 = .ok (.iload_n 2, 1) := by decide +kernel
set_option maxRecDepth 20000 in
theorem dX1_still_19 : decode cX1_still 19 = .ok (.if_icmp .ne 6, 3) := by decide +kernel
set_option maxRecDepth 20000 in
theorem dX1_still_22 : decode cX1_still 22 = .ok (.iinc 1 1, 3) := by decide +kernel
set_option maxRecDepth 20000 in
theorem dX1_still_25 : decode cX1_still 25 = .ok (.iinc 2 1, 3) := by decide +kernel
set_option maxRecDepth 20000 in
theorem dX1_still_28 : decode cX1_still 28 = .ok (.goto (-24), 3) := by decide +kernel
set_option maxRecDepth 20000 in
theorem dX1_still_31 : decode cX1_still 31 = .ok (.iload_n 1, 1) := by decide +kernel
set_option maxRecDepth 20000 in
theorem dX1_still_32 : decode cX1_still 32 = .ok (.ireturn, 1) := by decide +kernel
set_option maxRecDepth 20000 in
theorem dX1_longestRound_0 : decode cX1_longestRound 0 = .ok (.iconst 0, 1) := by decide +kernel
set_option maxRecDepth 20000 in
theorem dX1_longestRound_1 : decode cX1_longestRound 1 = .ok (.istore_n 1, 1) := by decide +kernel
set_option maxRecDepth 20000 in
theorem dX1_longestRound_2 : decode cX1_longestRound 2 = .ok (.iconst 0, 1) := by decide +kernel
set_option maxRecDepth 20000 in
theorem dX1_longestRound_3 : decode cX1_longestRound 3 = .ok (.istore_n 2, 1) := by decide +kernel
set_option maxRecDepth 20000 in
theorem dX1_longestRound_4 : decode cX1_longestRound 4 = .ok (.iload_n 2, 1) := by decide +kernel
set_option maxRecDepth 20000 in
theorem dX1_longestRound_5 : decode cX1_longestRound 5 = .ok (.aload_n 0, 1) := by decide +kernel
set_option maxRecDepth 20000 in
theorem dX1_longestRound_6 : decode cX1_longestRound 6 = .ok (.getfield 24, 3) := by decide +kernel
set_option maxRecDepth 20000 in
theorem dX1_longestRound_9 : decode cX1_longestRound 9 = .ok (.if_icmp .ge 19, 3) := by decide +kernel
set_option maxRecDepth 20000 in
theorem dX1_longestRound_12 : decode cX1_longestRound 12 = .ok (.iload_n 1, 1) := by decide +kernel
set_option maxRecDepth 20000 in
theorem dX1_longestRound_13 : decode cX1_longestRound 13 = .ok (.aload_n 0, 1) := by decide +kernel
set_option maxRecDepth 20000 in
theorem dX1_longestRound_14 : decode cX1_longestRound 14 = .ok (.iload_n 2, 1) := by decide +kernel
set_option maxRecDepth 20000 in
theorem dX1_longestRound_15 : decode cX1_longestRound 15 = .ok (.invokevirtual 51, 3) := by decide +kernel
set_option maxRecDepth 20000 in
theorem dX1_longestRound_18 : decode cX1_longestRound 18 = .ok (.invokestatic 45, 3) := by decide +kernel
set_option maxRecDepth 20000 in
theorem dX1_longestRound_21 : decode cX1_longestRound 21 = .ok (.istore_n 1, 1) := by decide +kernel
set_option maxRecDepth 20000 in
theorem dX1_longestRound_22 : decode cX1_longestRound 22 = .ok (.iinc 2 1, 3) := by decide +kernel
set_option maxRecDepth 20000 in
theorem dX1_longestRound_25 : decode cX1_longestRound 25 = .ok (.goto (-21), 3) := by decide +kernel
set_option maxRecDepth 20000 in
theorem dX1_longestRound_28 : decode cX1_longestRound 28 = .ok (.iload_n 1, 1) := by decide +kernel
set_option maxRecDepth 20000 in
theorem dX1_longestRound_29 : decode cX1_longestRound 29 = .ok (.ireturn, 1) := by decide +kernel
set_option maxRecDepth 20000 in
theorem dX1_pairsOut_0 : decode cX1_pairsOut 0 = .ok (.iconst 0, 1) := by decide +kernel
set_option maxRecDepth 20000 in
theorem dX1_pairsOut_1 : decode cX1_pairsOut 1 = .ok (.istore_n 1, 1) := by decide +kernel
set_option maxRecDepth 20000 in
theorem dX1_pairsOut_2 : decode cX1_pairsOut 2 = .ok (.iconst 0, 1) := by decide +kernel
set_option maxRecDepth 20000 in
theorem dX1_pairsOut_3 : decode cX1_pairsOut 3 = .ok (.istore_n 2, 1) := by decide +kernel
set_option maxRecDepth 20000 in
theorem dX1_pairsOut_4 : decode cX1_pairsOut 4 = .ok (.iload_n 2, 1) := by decide +kernel
set_option maxRecDepth 20000 in
theorem dX1_pairsOut_5 : decode cX1_pairsOut 5 = .ok (.aload_n 0, 1) := by decide +kernel
set_option maxRecDepth 20000 in
theorem dX1_pairsOut_6 : decode cX1_pairsOut 6 = .ok (.getfield 24, 3) := by decide +kernel
set_option maxRecDepth 20000 in
theorem dX1_pairsOut_9 : decode cX1_pairsOut 9 = .ok (.if_icmp .ge 40, 3) := by decide +kernel
set_option maxRecDepth 20000 in
theorem dX1_pairsOut_12 : decode cX1_pairsOut 12 = .ok (.iconst 0, 1) := by decide +kernel
set_option maxRecDepth 20000 in
theorem dX1_pairsOut_13 : decode cX1_pairsOut 13 = .ok (.istore_n 3, 1) := by decide +kernel
set_option maxRecDepth 20000 in
theorem dX1_pairsOut_14 : decode cX1_pairsOut 14 = .ok (.iload_n 3, 1) := by decide +kernel
set_option maxRecDepth 20000 in
theorem dX1_pairsOut_15 : decode cX1_pairsOut 15 = .ok (.iload_n 2, 1) := by decide +kernel
set_option maxRecDepth 20000 in
theorem dX1_pairsOut_16 : decode cX1_pairsOut 16 = .ok (.if_icmp .ge 27, 3) := by decide +kernel
set_option maxRecDepth 20000 in
theorem dX1_pairsOut_19 : decode cX1_pairsOut 19 = .ok (.aload_n 0, 1) := by decide +kernel
set_option maxRecDepth 20000 in
theorem dX1_pairsOut_20 : decode cX1_pairsOut 20 = .ok (.getfield 9, 3) := by decide +kernel
set_option maxRecDepth 20000 in
theorem dX1_pairsOut_23 : decode cX1_pairsOut 23 = .ok (.iload_n 3, 1) := by decide +kernel
set_option maxRecDepth 20000 in
theorem dX1_pairsOut_24 : decode cX1_pairsOut 24 = .ok (.iaload, 1) := by decide +kernel
set_option maxRecDepth 20000 in
theorem dX1_pairsOut_25 : decode cX1_pairsOut 25 = .ok (.aload_n 0, 1) := by decide +kernel
set_option maxRecDepth 20000 in
theorem dX1_pairsOut_26 : decode cX1_pairsOut 26 = .ok (.getfield 9, 3) := by decide +kernel
set_option maxRecDepth 20000 in
theorem dX1_pairsOut_29 : decode cX1_pairsOut 29 = .ok (.iload_n 2, 1) := by decide +kernel
set_option maxRecDepth 20000 in
theorem dX1_pairsOut_30 : decode cX1_pairsOut 30 = .ok (.iaload, 1) := by decide +kernel
set_option maxRecDepth 20000 in
theorem dX1_pairsOut_31 : decode cX1_pairsOut 31 = .ok (.if_icmp .le 6, 3) := by decide +kernel
set_option maxRecDepth 20000 in
theorem dX1_pairsOut_34 : decode cX1_pairsOut 34 = .ok (.iinc 1 1, 3) := by decide +kernel
set_option maxRecDepth 20000 in
theorem dX1_pairsOut_37 : decode cX1_pairsOut 37 = .ok (.iinc 3 1, 3) := by decide +kernel
set_option maxRecDepth 20000 in
theorem dX1_pairsOut_40 : decode cX1_pairsOut 40 = .ok (.goto (-26), 3) := by decide +kernel
set_option maxRecDepth 20000 in
theorem dX1_pairsOut_43 : decode cX1_pairsOut 43 = .ok (.iinc 2 1, 3) := by decide +kernel
set_option maxRecDepth 20000 in
theorem dX1_pairsOut_46 : decode cX1_pairsOut 46 = .ok (.goto (-42), 3) := by decide +kernel
set_option maxRecDepth 20000 in
theorem dX1_pairsOut_49 : decode cX1_pairsOut 49 = .ok (.iload_n 1, 1) := by decide +kernel
set_option maxRecDepth 20000 in
theorem dX1_pairsOut_50 : decode cX1_pairsOut 50 = .ok (.ireturn, 1) := by decide +kernel
set_option maxRecDepth 20000 in
theorem dX1_longestRise_0 : decode cX1_longestRise 0 = .ok (.iconst 0, 1) := by decide +kernel
set_option maxRecDepth 20000 in
theorem dX1_longestRise_1 : decode cX1_longestRise 1 = .ok (.istore_n 1, 1) := by decide +kernel
set_option maxRecDepth 20000 in
theorem dX1_longestRise_2 : decode cX1_longestRise 2 = .ok (.iconst 0, 1) := by decide +kernel
set_option maxRecDepth 20000 in
theorem dX1_longestRise_3 : decode cX1_longestRise 3 = .ok (.istore_n 2, 1) := by decide +kernel
set_option maxRecDepth 20000 in
theorem dX1_longestRise_4 : decode cX1_longestRise 4 = .ok (.iload_n 2, 1) := by decide +kernel
set_option maxRecDepth 20000 in
theorem dX1_longestRise_5 : decode cX1_longestRise 5 = .ok (.aload_n 0, 1) := by decide +kernel
set_option maxRecDepth 20000 in
theorem dX1_longestRise_6 : decode cX1_longestRise 6 = .ok (.getfield 24, 3) := by decide +kernel
set_option maxRecDepth 20000 in
theorem dX1_longestRise_9 : decode cX1_longestRise 9 = .ok (.if_icmp .ge 74, 3) := by decide +kernel
set_option maxRecDepth 20000 in
theorem dX1_longestRise_12 : decode cX1_longestRise 12 = .ok (.iconst 0, 1) := by decide +kernel
set_option maxRecDepth 20000 in
theorem dX1_longestRise_13 : decode cX1_longestRise 13 = .ok (.istore_n 3, 1) := by decide +kernel
set_option maxRecDepth 20000 in
theorem dX1_longestRise_14 : decode cX1_longestRise 14 = .ok (.iconst 0, 1) := by decide +kernel
set_option maxRecDepth 20000 in
theorem dX1_longestRise_15 : decode cX1_longestRise 15 = .ok (.istore 4, 2) := by decide +kernel
set_option maxRecDepth 20000 in
theorem dX1_longestRise_17 : decode cX1_longestRise 17 = .ok (.iload 4, 2) := by decide +kernel
set_option maxRecDepth 20000 in
theorem dX1_longestRise_19 : decode cX1_longestRise 19 = .ok (.iload_n 2, 1) := by decide +kernel
set_option maxRecDepth 20000 in
theorem dX1_longestRise_20 : decode cX1_longestRise 20 = .ok (.if_icmp .ge 37, 3) := by decide +kernel
set_option maxRecDepth 20000 in
theorem dX1_longestRise_23 : decode cX1_longestRise 23 = .ok (.aload_n 0, 1) := by decide +kernel
set_option maxRecDepth 20000 in
theorem dX1_longestRise_24 : decode cX1_longestRise 24 = .ok (.getfield 9, 3) := by decide +kernel
set_option maxRecDepth 20000 in
theorem dX1_longestRise_27 : decode cX1_longestRise 27 = .ok (.iload 4, 2) := by decide +kernel
set_option maxRecDepth 20000 in
theorem dX1_longestRise_29 : decode cX1_longestRise 29 = .ok (.iaload, 1) := by decide +kernel
set_option maxRecDepth 20000 in
theorem dX1_longestRise_30 : decode cX1_longestRise 30 = .ok (.aload_n 0, 1) := by decide +kernel
set_option maxRecDepth 20000 in
theorem dX1_longestRise_31 : decode cX1_longestRise 31 = .ok (.getfield 9, 3) := by decide +kernel
set_option maxRecDepth 20000 in
theorem dX1_longestRise_34 : decode cX1_longestRise 34 = .ok (.iload_n 2, 1) := by decide +kernel
set_option maxRecDepth 20000 in
theorem dX1_longestRise_35 : decode cX1_longestRise 35 = .ok (.iaload, 1) := by decide +kernel
set_option maxRecDepth 20000 in
theorem dX1_longestRise_36 : decode cX1_longestRise 36 = .ok (.if_icmp .ge 15, 3) := by decide +kernel
set_option maxRecDepth 20000 in
theorem dX1_longestRise_39 : decode cX1_longestRise 39 = .ok (.iload_n 3, 1) := by decide +kernel
set_option maxRecDepth 20000 in
theorem dX1_longestRise_40 : decode cX1_longestRise 40 = .ok (.aload_n 0, 1) := by decide +kernel
set_option maxRecDepth 20000 in
theorem dX1_longestRise_41 : decode cX1_longestRise 41 = .ok (.getfield 15, 3) := by decide +kernel
set_option maxRecDepth 20000 in
theorem dX1_longestRise_44 : decode cX1_longestRise 44 = .ok (.iload 4, 2) := by decide +kernel
set_option maxRecDepth 20000 in
theorem dX1_longestRise_46 : decode cX1_longestRise 46 = .ok (.iaload, 1) := by decide +kernel
set_option maxRecDepth 20000 in
theorem dX1_longestRise_47 : decode cX1_longestRise 47 = .ok (.invokestatic 45, 3) := by decide +kernel
set_option maxRecDepth 20000 in
theorem dX1_longestRise_50 : decode cX1_longestRise 50 = .ok (.istore_n 3, 1) := by decide +kernel
set_option maxRecDepth 20000 in
theorem dX1_longestRise_51 : decode cX1_longestRise 51 = .ok (.iinc 4 1, 3) := by decide +kernel
set_option maxRecDepth 20000 in
theorem dX1_longestRise_54 : decode cX1_longestRise 54 = .ok (.goto (-37), 3) := by decide +kernel
set_option maxRecDepth 20000 in
theorem dX1_longestRise_57 : decode cX1_longestRise 57 = .ok (.aload_n 0, 1) := by decide +kernel
set_option maxRecDepth 20000 in
theorem dX1_longestRise_58 : decode cX1_longestRise 58 = .ok (.getfield 15, 3) := by decide +kernel
set_option maxRecDepth 20000 in
theorem dX1_longestRise_61 : decode cX1_longestRise 61 = .ok (.iload_n 2, 1) := by decide +kernel
set_option maxRecDepth 20000 in
theorem dX1_longestRise_62 : decode cX1_longestRise 62 = .ok (.iload_n 3, 1) := by decide +kernel
set_option maxRecDepth 20000 in
theorem dX1_longestRise_63 : decode cX1_longestRise 63 = .ok (.iconst 1, 1) := by decide +kernel
set_option maxRecDepth 20000 in
theorem dX1_longestRise_64 : decode cX1_longestRise 64 = .ok (.iadd, 1) := by decide +kernel
set_option maxRecDepth 20000 in
theorem dX1_longestRise_65 : decode cX1_longestRise 65 = .ok (.iastore, 1) := by decide +kernel
set_option maxRecDepth 20000 in
theorem dX1_longestRise_66 : decode cX1_longestRise 66 = .ok (.iload_n 1, 1) := by decide +kernel
set_option maxRecDepth 20000 in
theorem dX1_longestRise_67 : decode cX1_longestRise 67 = .ok (.aload_n 0, 1) := by decide +kernel
set_option maxRecDepth 20000 in
theorem dX1_longestRise_68 : decode cX1_longestRise 68 = .ok (.getfield 15, 3) := by decide +kernel
set_option maxRecDepth 20000 in
theorem dX1_longestRise_71 : decode cX1_longestRise 71 = .ok (.iload_n 2, 1) := by decide +kernel
set_option maxRecDepth 20000 in
theorem dX1_longestRise_72 : decode cX1_longestRise 72 = .ok (.iaload, 1) := by decide +kernel
set_option maxRecDepth 20000 in
theorem dX1_longestRise_73 : decode cX1_longestRise 73 = .ok (.invokestatic 45, 3) := by decide +kernel
set_option maxRecDepth 20000 in
theorem dX1_longestRise_76 : decode cX1_longestRise 76 = .ok (.istore_n 1, 1) := by decide +kernel
set_option maxRecDepth 20000 in
theorem dX1_longestRise_77 : decode cX1_longestRise 77 = .ok (.iinc 2 1, 3) := by decide +kernel
set_option maxRecDepth 20000 in
theorem dX1_longestRise_80 : decode cX1_longestRise 80 = .ok (.goto (-76), 3) := by decide +kernel
set_option maxRecDepth 20000 in
theorem dX1_longestRise_83 : decode cX1_longestRise 83 = .ok (.iload_n 1, 1) := by decide +kernel
set_option maxRecDepth 20000 in
theorem dX1_longestRise_84 : decode cX1_longestRise 84 = .ok (.ireturn, 1) := by decide +kernel
set_option maxRecDepth 20000 in
theorem dX1_turns_0 : decode cX1_turns 0 = .ok (.iconst 1, 1) := by decide +kernel
set_option maxRecDepth 20000 in
theorem dX1_turns_1 : decode cX1_turns 1 = .ok (.istore_n 1, 1) := by decide +kernel
set_option maxRecDepth 20000 in
theorem dX1_turns_2 : decode cX1_turns 2 = .ok (.iconst 0, 1) := by decide +kernel
set_option maxRecDepth 20000 in
theorem dX1_turns_3 : decode cX1_turns 3 = .ok (.istore_n 2, 1) := by decide +kernel
set_option maxRecDepth 20000 in
theorem dX1_turns_4 : decode cX1_turns 4 = .ok (.iload_n 2, 1) := by decide +kernel
set_option maxRecDepth 20000 in
theorem dX1_turns_5 : decode cX1_turns 5 = .ok (.aload_n 0, 1) := by decide +kernel
set_option maxRecDepth 20000 in
theorem dX1_turns_6 : decode cX1_turns 6 = .ok (.getfield 24, 3) := by decide +kernel
set_option maxRecDepth 20000 in
theorem dX1_turns_9 : decode cX1_turns 9 = .ok (.if_icmp .ge 27, 3) := by decide +kernel
set_option maxRecDepth 20000 in
theorem dX1_turns_12 : decode cX1_turns 12 = .ok (.aload_n 0, 1) := by decide +kernel
set_option maxRecDepth 20000 in
theorem dX1_turns_13 : decode cX1_turns 13 = .ok (.iload_n 2, 1) := by decide +kernel
set_option maxRecDepth 20000 in
theorem dX1_turns_14 : decode cX1_turns 14 = .ok (.invokevirtual 48, 3) := by decide +kernel
set_option maxRecDepth 20000 in
theorem dX1_turns_17 : decode cX1_turns 17 = .ok (.ifCond .eq 13, 3) := by decide +kernel
set_option maxRecDepth 20000 in
theorem dX1_turns_20 : decode cX1_turns 20 = .ok (.iload_n 1, 1) := by decide +kernel
set_option maxRecDepth 20000 in
theorem dX1_turns_21 : decode cX1_turns 21 = .ok (.aload_n 0, 1) := by decide +kernel
set_option maxRecDepth 20000 in
theorem dX1_turns_22 : decode cX1_turns 22 = .ok (.iload_n 2, 1) := by decide +kernel
set_option maxRecDepth 20000 in
theorem dX1_turns_23 : decode cX1_turns 23 = .ok (.invokevirtual 51, 3) := by decide +kernel
set_option maxRecDepth 20000 in
theorem dX1_turns_26 : decode cX1_turns 26 = .ok (.invokestatic 79, 3) := by decide +kernel
set_option maxRecDepth 20000 in
theorem dX1_turns_29 : decode cX1_turns 29 = .ok (.istore_n 1, 1) := by decide +kernel
set_option maxRecDepth 20000 in
theorem dX1_turns_30 : decode cX1_turns 30 = .ok (.iinc 2 1, 3) := by decide +kernel
set_option maxRecDepth 20000 in
theorem dX1_turns_33 : decode cX1_turns 33 = .ok (.goto (-29), 3) := by decide +kernel
set_option maxRecDepth 20000 in
theorem dX1_turns_36 : decode cX1_turns 36 = .ok (.iload_n 1, 1) := by decide +kernel
set_option maxRecDepth 20000 in
theorem dX1_turns_37 : decode cX1_turns 37 = .ok (.ireturn, 1) := by decide +kernel
set_option maxRecDepth 20000 in
theorem dX2_init_0 : decode cX2_init 0 = .ok (.aload_n 0, 1) := by decide +kernel
set_option maxRecDepth 20000 in
theorem dX2_init_1 : decode cX2_init 1 = .ok (.invokespecial 3, 3) := by decide +kernel
set_option maxRecDepth 20000 in
theorem dX2_init_4 : decode cX2_init 4 = .ok (.aload_n 0, 1) := by decide +kernel
set_option maxRecDepth 20000 in
theorem dX2_init_5 : decode cX2_init 5 = .ok (.bipush 18, 2) := by decide +kernel
set_option maxRecDepth 20000 in
theorem dX2_init_7 : decode cX2_init 7 = .ok (.newarray .int, 2) := by decide +kernel
set_option maxRecDepth 20000 in
theorem dX2_init_9 : decode cX2_init 9 = .ok (.putfield 9, 3) := by decide +kernel
set_option maxRecDepth 20000 in
theorem dX2_init_12 : decode cX2_init 12 = .ok (.aload_n 0, 1) := by decide +kernel
set_option maxRecDepth 20000 in
theorem dX2_init_13 : decode cX2_init 13 = .ok (.iconst 1, 1) := by decide +kernel
set_option maxRecDepth 20000 in
theorem dX2_init_14 : decode cX2_init 14 = .ok (.putfield 15, 3) := by decide +kernel
set_option maxRecDepth 20000 in
theorem dX2_init_17 : decode cX2_init 17 = .ok (.aload_n 0, 1) := by decide +kernel
set_option maxRecDepth 20000 in
theorem dX2_init_18 : decode cX2_init 18 = .ok (.getfield 9, 3) := by decide +kernel
set_option maxRecDepth 20000 in
theorem dX2_init_21 : decode cX2_init 21 = .ok (.iconst 0, 1) := by decide +kernel
set_option maxRecDepth 20000 in
theorem dX2_init_22 : decode cX2_init 22 = .ok (.iload_n 1, 1) := by decide +kernel
set_option maxRecDepth 20000 in
theorem dX2_init_23 : decode cX2_init 23 = .ok (.iastore, 1) := by decide +kernel
set_option maxRecDepth 20000 in
theorem dX2_init_24 : decode cX2_init 24 = .ok (.return_, 1) := by decide +kernel
set_option maxRecDepth 20000 in
theorem dX2_firstPart_0 : decode cX2_firstPart 0 = .ok (.aload_n 0, 1) := by decide +kernel
set_option maxRecDepth 20000 in
theorem dX2_firstPart_1 : decode cX2_firstPart 1 = .ok (.getfield 9, 3) := by decide +kernel
set_option maxRecDepth 20000 in
theorem dX2_firstPart_4 : decode cX2_firstPart 4 = .ok (.iconst 0, 1) := by decide +kernel
set_option maxRecDepth 20000 in
theorem dX2_firstPart_5 : decode cX2_firstPart 5 = .ok (.iaload, 1) := by decide +kernel
set_option maxRecDepth 20000 in
theorem dX2_firstPart_6 : decode cX2_firstPart 6 = .ok (.ireturn, 1) := by decide +kernel
set_option maxRecDepth 20000 in
theorem dX2_goOn_0 : decode cX2_goOn 0 = .ok (.aload_n 0, 1) := by decide +kernel
set_option maxRecDepth 20000 in
theorem dX2_goOn_1 : decode cX2_goOn 1 = .ok (.getfield 15, 3) := by decide +kernel
set_option maxRecDepth 20000 in
theorem dX2_goOn_4 : decode cX2_goOn 4 = .ok (.iconst 1, 1) := by decide +kernel
set_option maxRecDepth 20000 in
theorem dX2_goOn_5 : decode cX2_goOn 5 = .ok (.isub, 1) := by decide +kernel
set_option maxRecDepth 20000 in
theorem dX2_goOn_6 : decode cX2_goOn 6 = .ok (.istore_n 1, 1) := by decide +kernel
set_option maxRecDepth 20000 in
theorem dX2_goOn_7 : decode cX2_goOn 7 = .ok (.iload_n 1, 1) := by decide +kernel
set_option maxRecDepth 20000 in
theorem dX2_goOn_8 : decode cX2_goOn 8 = .ok (.ifCond .lt 19, 3) := by decide +kernel
set_option maxRecDepth 20000 in
theorem dX2_goOn_11 : decode cX2_goOn 11 = .ok (.aload_n 0, 1) := by decide +kernel
set_option maxRecDepth 20000 in
theorem dX2_goOn_12 : decode cX2_goOn 12 = .ok (.getfield 9, 3) := by decide +kernel
set_option maxRecDepth 20000 in
theorem dX2_goOn_15 : decode cX2_goOn 15 = .ok (.iload_n 1, 1) := by decide +kernel
set_option maxRecDepth 20000 in
theorem dX2_goOn_16 : decode cX2_goOn 16 = .ok (.iaload, 1) := by decide +kernel
set_option maxRecDepth 20000 in
theorem dX2_goOn_17 : decode cX2_goOn 17 = .ok (.iconst 1, 1) := by decide +kernel
set_option maxRecDepth 20000 in
theorem dX2_goOn_18 : decode cX2_goOn 18 = .ok (.if_icmp .ne 9, 3) := by decide +kernel
set_option maxRecDepth 20000 in
theorem dX2_goOn_21 : decode cX2_goOn 21 = .ok (.iinc 1 (-1), 3) := by decide +kernel
set_option maxRecDepth 20000 in
theorem dX2_goOn_24 : decode cX2_goOn 24 = .ok (.goto (-17), 3) := by decide +kernel
set_option maxRecDepth 20000 in
theorem dX2_goOn_27 : decode cX2_goOn 27 = .ok (.iload_n 1, 1) := by decide +kernel
set_option maxRecDepth 20000 in
theorem dX2_goOn_28 : decode cX2_goOn 28 = .ok (.ifCond .ge 5, 3) := by decide +kernel
set_option maxRecDepth 20000 in
theorem dX2_goOn_31 : decode cX2_goOn 31 = .ok (.iconst 0, 1) := by decide +kernel
set_option maxRecDepth 20000 in
theorem dX2_goOn_32 : decode cX2_goOn 32 = .ok (.ireturn, 1) := by decide +kernel
set_option maxRecDepth 20000 in
theorem dX2_goOn_33 : decode cX2_goOn 33 = .ok (.aload_n 0, 1) := by decide +kernel
set_option maxRecDepth 20000 in
theorem dX2_goOn_34 : decode cX2_goOn 34 = .ok (.getfield 15, 3) := by decide +kernel
set_option maxRecDepth 20000 in
theorem dX2_goOn_37 : decode cX2_goOn 37 = .ok (.iload_n 1, 1) := by decide +kernel
set_option maxRecDepth 20000 in
theorem dX2_goOn_38 : decode cX2_goOn 38 = .ok (.isub, 1) := by decide +kernel
set_option maxRecDepth 20000 in
theorem dX2_goOn_39 : decode cX2_goOn 39 = .ok (.istore_n 2, 1) := by decide +kernel
set_option maxRecDepth 20000 in
theorem dX2_goOn_40 : decode cX2_goOn 40 = .ok (.aload_n 0, 1) := by decide +kernel
set_option maxRecDepth 20000 in
theorem dX2_goOn_41 : decode cX2_goOn 41 = .ok (.getfield 9, 3) := by decide +kernel
set_option maxRecDepth 20000 in
theorem dX2_goOn_44 : decode cX2_goOn 44 = .ok (.iload_n 1, 1) := by decide +kernel
set_option maxRecDepth 20000 in
theorem dX2_goOn_45 : decode cX2_goOn 45 = .ok (.iaload, 1) := by decide +kernel
set_option maxRecDepth 20000 in
theorem dX2_goOn_46 : decode cX2_goOn 46 = .ok (.iconst 1, 1) := by decide +kernel
set_option maxRecDepth 20000 in
theorem dX2_goOn_47 : decode cX2_goOn 47 = .ok (.isub, 1) := by decide +kernel
set_option maxRecDepth 20000 in
theorem dX2_goOn_48 : decode cX2_goOn 48 = .ok (.istore_n 3, 1) := by decide +kernel
set_option maxRecDepth 20000 in
theorem dX2_goOn_49 : decode cX2_goOn 49 = .ok (.aload_n 0, 1) := by decide +kernel
set_option maxRecDepth 20000 in
theorem dX2_goOn_50 : decode cX2_goOn 50 = .ok (.getfield 9, 3) := by decide +kernel
set_option maxRecDepth 20000 in
theorem dX2_goOn_53 : decode cX2_goOn 53 = .ok (.iload_n 1, 1) := by decide +kernel
set_option maxRecDepth 20000 in
theorem dX2_goOn_54 : decode cX2_goOn 54 = .ok (.iload_n 3, 1) := by decide +kernel
set_option maxRecDepth 20000 in
theorem dX2_goOn_55 : decode cX2_goOn 55 = .ok (.iastore, 1) := by decide +kernel
set_option maxRecDepth 20000 in
theorem dX2_goOn_56 : decode cX2_goOn 56 = .ok (.aload_n 0, 1) := by decide +kernel
set_option maxRecDepth 20000 in
theorem dX2_goOn_57 : decode cX2_goOn 57 = .ok (.iload_n 1, 1) := by decide +kernel
set_option maxRecDepth 20000 in
theorem dX2_goOn_58 : decode cX2_goOn 58 = .ok (.iconst 1, 1) := by decide +kernel
set_option maxRecDepth 20000 in
theorem dX2_goOn_59 : decode cX2_goOn 59 = .ok (.iadd, 1) := by decide +kernel
set_option maxRecDepth 20000 in
theorem dX2_goOn_60 : decode cX2_goOn 60 = .ok (.putfield 15, 3) := by decide +kernel
set_option maxRecDepth 20000 in
theorem dX2_goOn_63 : decode cX2_goOn 63 = .ok (.iload_n 2, 1) := by decide +kernel
set_option maxRecDepth 20000 in
theorem dX2_goOn_64 : decode cX2_goOn 64 = .ok (.ifCond .le 51, 3) := by decide +kernel
set_option maxRecDepth 20000 in
theorem dX2_goOn_67 : decode cX2_goOn 67 = .ok (.aload_n 0, 1) := by decide +kernel
set_option maxRecDepth 20000 in
theorem dX2_goOn_68 : decode cX2_goOn 68 = .ok (.getfield 15, 3) := by decide +kernel
set_option maxRecDepth 20000 in
theorem dX2_goOn_71 : decode cX2_goOn 71 = .ok (.bipush 18, 2) := by decide +kernel
set_option maxRecDepth 20000 in
theorem dX2_goOn_73 : decode cX2_goOn 73 = .ok (.if_icmp .ge 42, 3) := by decide +kernel
set_option maxRecDepth 20000 in
theorem dX2_goOn_76 : decode cX2_goOn 76 = .ok (.aload_n 0, 1) := by decide +kernel
set_option maxRecDepth 20000 in
theorem dX2_goOn_77 : decode cX2_goOn 77 = .ok (.getfield 9, 3) := by decide +kernel
set_option maxRecDepth 20000 in
theorem dX2_goOn_80 : decode cX2_goOn 80 = .ok (.aload_n 0, 1) := by decide +kernel
set_option maxRecDepth 20000 in
theorem dX2_goOn_81 : decode cX2_goOn 81 = .ok (.getfield 15, 3) := by decide +kernel
set_option maxRecDepth 20000 in
theorem dX2_goOn_84 : decode cX2_goOn 84 = .ok (.iload_n 2, 1) := by decide +kernel
set_option maxRecDepth 20000 in
theorem dX2_goOn_85 : decode cX2_goOn 85 = .ok (.iload_n 3, 1) := by decide +kernel
set_option maxRecDepth 20000 in
theorem dX2_goOn_86 : decode cX2_goOn 86 = .ok (.invokestatic 19, 3) := by decide +kernel
set_option maxRecDepth 20000 in
theorem dX2_goOn_89 : decode cX2_goOn 89 = .ok (.iastore, 1) := by decide +kernel
set_option maxRecDepth 20000 in
theorem dX2_goOn_90 : decode cX2_goOn 90 = .ok (.iload_n 2, 1) := by decide +kernel
set_option maxRecDepth 20000 in
theorem dX2_goOn_91 : decode cX2_goOn 91 = .ok (.aload_n 0, 1) := by decide +kernel
set_option maxRecDepth 20000 in
theorem dX2_goOn_92 : decode cX2_goOn 92 = .ok (.getfield 9, 3) := by decide +kernel
set_option maxRecDepth 20000 in
theorem dX2_goOn_95 : decode cX2_goOn 95 = .ok (.aload_n 0, 1) := by decide +kernel
set_option maxRecDepth 20000 in
theorem dX2_goOn_96 : decode cX2_goOn 96 = .ok (.getfield 15, 3) := by decide +kernel
set_option maxRecDepth 20000 in
theorem dX2_goOn_99 : decode cX2_goOn 99 = .ok (.iaload, 1) := by decide +kernel
set_option maxRecDepth 20000 in
theorem dX2_goOn_100 : decode cX2_goOn 100 = .ok (.isub, 1) := by decide +kernel
set_option maxRecDepth 20000 in
theorem dX2_goOn_101 : decode cX2_goOn 101 = .ok (.istore_n 2, 1) := by decide +kernel
set_option maxRecDepth 20000 in
theorem dX2_goOn_102 : decode cX2_goOn 102 = .ok (.aload_n 0, 1) := by decide +kernel
set_option maxRecDepth 20000 in
theorem dX2_goOn_103 : decode cX2_goOn 103 = .ok (.dup, 1) := by decide +kernel
set_option maxRecDepth 20000 in
theorem dX2_goOn_104 : decode cX2_goOn 104 = .ok (.getfield 15, 3) := by decide +kernel
set_option maxRecDepth 20000 in
theorem dX2_goOn_107 : decode cX2_goOn 107 = .ok (.iconst 1, 1) := by decide +kernel
set_option maxRecDepth 20000 in
theorem dX2_goOn_108 : decode cX2_goOn 108 = .ok (.iadd, 1) := by decide +kernel
set_option maxRecDepth 20000 in
theorem dX2_goOn_109 : decode cX2_goOn 109 = .ok (.putfield 15, 3) := by decide +kernel
set_option maxRecDepth 20000 in
theorem dX2_goOn_112 : decode cX2_goOn 112 = .ok (.goto (-49), 3) := by decide +kernel
set_option maxRecDepth 20000 in
theorem dX2_goOn_115 : decode cX2_goOn 115 = .ok (.iconst 1, 1) := by decide +kernel
set_option maxRecDepth 20000 in
theorem dX2_goOn_116 : decode cX2_goOn 116 = .ok (.ireturn, 1) := by decide +kernel
set_option maxRecDepth 20000 in
theorem dX2_hookProduct_0 : decode cX2_hookProduct 0 = .ok (.lconst 1, 1) := by decide +kernel
set_option maxRecDepth 20000 in
theorem dX2_hookProduct_1 : decode cX2_hookProduct 1 = .ok (.lstore_n 1, 1) := by decide +kernel
set_option maxRecDepth 20000 in
theorem dX2_hookProduct_2 : decode cX2_hookProduct 2 = .ok (.iconst 0, 1) := by decide +kernel
set_option maxRecDepth 20000 in
theorem dX2_hookProduct_3 : decode cX2_hookProduct 3 = .ok (.istore_n 3, 1) := by decide +kernel
set_option maxRecDepth 20000 in
theorem dX2_hookProduct_4 : decode cX2_hookProduct 4 = .ok (.iload_n 3, 1) := by decide +kernel
set_option maxRecDepth 20000 in
theorem dX2_hookProduct_5 : decode cX2_hookProduct 5 = .ok (.aload_n 0, 1) := by decide +kernel
set_option maxRecDepth 20000 in
theorem dX2_hookProduct_6 : decode cX2_hookProduct 6 = .ok (.getfield 15, 3) := by decide +kernel
set_option maxRecDepth 20000 in
theorem dX2_hookProduct_9 : decode cX2_hookProduct 9 = .ok (.if_icmp .ge 79, 3) := by decide +kernel
set_option maxRecDepth 20000 in
theorem dX2_hookProduct_12 : decode cX2_hookProduct 12 = .ok (.aload_n 0, 1) := by decide +kernel
set_option maxRecDepth 20000 in
theorem dX2_hookProduct_13 : decode cX2_hookProduct 13 = .ok (.getfield 15, 3) := by decide +kernel
set_option maxRecDepth 20000 in
theorem dX2_hookProduct_16 : decode cX2_hookProduct 16 = .ok (.iconst 1, 1) := by decide +kernel
set_option maxRecDepth 20000 in
theorem dX2_hookProduct_17 : decode cX2_hookProduct 17 = .ok (.isub, 1) := by decide +kernel
set_option maxRecDepth 20000 in
theorem dX2_hookProduct_18 : decode cX2_hookProduct 18 = .ok (.istore 4, 2) := by decide +kernel
set_option maxRecDepth 20000 in
theorem dX2_hookProduct_20 : decode cX2_hookProduct 20 = .ok (.iconst 0, 1) := by decide +kernel
set_option maxRecDepth 20000 in
theorem dX2_hookProduct_21 : decode cX2_hookProduct 21 = .ok (.istore 5, 2) := by decide +kernel
set_option maxRecDepth 20000 in
theorem dX2_hookProduct_23 : decode cX2_hookProduct 23 = .ok (.iload 5, 2) := by decide +kernel
set_option maxRecDepth 20000 in
theorem dX2_hookProduct_25 : decode cX2_hookProduct 25 = .ok (.aload_n 0, 1) := by decide +kernel
set_option maxRecDepth 20000 in
theorem dX2_hookProduct_26 : decode cX2_hookProduct 26 = .ok (.getfield 9, 3) := by decide +kernel
set_option maxRecDepth 20000 in
theorem dX2_hookProduct_29 : decode cX2_hookProduct 29 = .ok (.iload_n 3, 1) := by decide +kernel
set_option maxRecDepth 20000 in
theorem dX2_hookProduct_30 : decode cX2_hookProduct 30 = .ok (.iaload, 1) := by decide +kernel
set_option maxRecDepth 20000 in
theorem dX2_hookProduct_31 : decode cX2_hookProduct 31 = .ok (.if_icmp .ge 51, 3) := by decide +kernel
set_option maxRecDepth 20000 in
theorem dX2_hookProduct_34 : decode cX2_hookProduct 34 = .ok (.iload 4, 2) := by decide +kernel
set_option maxRecDepth 20000 in
theorem dX2_hookProduct_36 : decode cX2_hookProduct 36 = .ok (.iload_n 3, 1) := by decide +kernel
set_option maxRecDepth 20000 in
theorem dX2_hookProduct_37 : decode cX2_hookProduct 37 = .ok (.if_icmp .le 21, 3) := by decide +kernel
set_option maxRecDepth 20000 in
theorem dX2_hookProduct_40 : decode cX2_hookProduct 40 = .ok (.aload_n 0, 1) := by decide +kernel
set_option maxRecDepth 20000 in
theorem dX2_hookProduct_41 : decode cX2_hookProduct 41 = .ok (.getfield 9, 3) := by decide +kernel
set_option maxRecDepth 20000 in
theorem dX2_hookProduct_44 : decode cX2_hookProduct 44 = .ok (.iload 4, 2) := by decide +kernel
set_option maxRecDepth 20000 in
theorem dX2_hookProduct_46 : decode cX2_hookProduct 46 = .ok (.iaload, 1) := by decide +kernel
set_option maxRecDepth 20000 in
theorem dX2_hookProduct_47 : decode cX2_hookProduct 47 = .ok (.iload 5, 2) := by decide +kernel
set_option maxRecDepth 20000 in
theorem dX2_hookProduct_49 : decode cX2_hookProduct 49 = .ok (.if_icmp .gt 9, 3) := by decide +kernel
set_option maxRecDepth 20000 in
theorem dX2_hookProduct_52 : decode cX2_hookProduct 52 = .ok (.iinc 4 (-1), 3) := by decide +kernel
set_option maxRecDepth 20000 in
theorem dX2_hookProduct_55 : decode cX2_hookProduct 55 = .ok (.goto (-21), 3) := by decide +kernel
set_option maxRecDepth 20000 in
theorem dX2_hookProduct_58 : decode cX2_hookProduct 58 = .ok (.lload_n 1, 1) := by decide +kernel
set_option maxRecDepth 20000 in
theorem dX2_hookProduct_59 : decode cX2_hookProduct 59 = .ok (.aload_n 0, 1) := by decide +kernel
set_option maxRecDepth 20000 in
theorem dX2_hookProduct_60 : decode cX2_hookProduct 60 = .ok (.getfield 9, 3) := by decide +kernel
set_option maxRecDepth 20000 in
theorem dX2_hookProduct_63 : decode cX2_hookProduct 63 = .ok (.iload_n 3, 1) := by decide +kernel
set_option maxRecDepth 20000 in
theorem dX2_hookProduct_64 : decode cX2_hookProduct 64 = .ok (.iaload, 1) := by decide +kernel
set_option maxRecDepth 20000 in
theorem dX2_hookProduct_65 : decode cX2_hookProduct 65 = .ok (.iload 5, 2) := by decide +kernel
set_option maxRecDepth 20000 in
theorem dX2_hookProduct_67 : decode cX2_hookProduct 67 = .ok (.isub, 1) := by decide +kernel
set_option maxRecDepth 20000 in
theorem dX2_hookProduct_68 : decode cX2_hookProduct 68 = .ok (.iload 4, 2) := by decide +kernel
set_option maxRecDepth 20000 in
theorem dX2_hookProduct_70 : decode cX2_hookProduct 70 = .ok (.iadd, 1) := by decide +kernel
set_option maxRecDepth 20000 in
theorem dX2_hookProduct_71 : decode cX2_hookProduct 71 = .ok (.iload_n 3, 1) := by decide +kernel
set_option maxRecDepth 20000 in
theorem dX2_hookProduct_72 : decode cX2_hookProduct 72 = .ok (.isub, 1) := by decide +kernel
set_option maxRecDepth 20000 in
theorem dX2_hookProduct_73 : decode cX2_hookProduct 73 = .ok (.i2l, 1) := by decide +kernel
set_option maxRecDepth 20000 in
theorem dX2_hookProduct_74 : decode cX2_hookProduct 74 = .ok (.lmul, 1) := by decide +kernel
set_option maxRecDepth 20000 in
theorem dX2_hookProduct_75 : decode cX2_hookProduct 75 = .ok (.lstore_n 1, 1) := by decide +kernel
set_option maxRecDepth 20000 in
theorem dX2_hookProduct_76 : decode cX2_hookProduct 76 = .ok (.iinc 5 1, 3) := by decide +kernel
set_option maxRecDepth 20000 in
theorem dX2_hookProduct_79 : decode cX2_hookProduct 79 = .ok (.goto (-56), 3) := by decide +kernel
set_option maxRecDepth 20000 in
theorem dX2_hookProduct_82 : decode cX2_hookProduct 82 = .ok (.iinc 3 1, 3) := by decide +kernel
set_option maxRecDepth 20000 in
theorem dX2_hookProduct_85 : decode cX2_hookProduct 85 = .ok (.goto (-81), 3) := by decide +kernel
set_option maxRecDepth 20000 in
theorem dX2_hookProduct_88 : decode cX2_hookProduct 88 = .ok (.lload_n 1, 1) := by decide +kernel
set_option maxRecDepth 20000 in
theorem dX2_hookProduct_89 : decode cX2_hookProduct 89 = .ok (.lreturn, 1) := by decide +kernel
set_option maxRecDepth 20000 in
theorem dX2_sameRounds_0 : decode cX2_sameRounds 0 = .ok (.lconst 1, 1) := by decide +kernel
set_option maxRecDepth 20000 in
theorem dX2_sameRounds_1 : decode cX2_sameRounds 1 = .ok (.lstore_n 1, 1) := by decide +kernel
set_option maxRecDepth 20000 in
theorem dX2_sameRounds_2 : decode cX2_sameRounds 2 = .ok (.iconst 0, 1) := by decide +kernel
set_option maxRecDepth 20000 in
theorem dX2_sameRounds_3 : decode cX2_sameRounds 3 = .ok (.istore_n 3, 1) := by decide +kernel
set_option maxRecDepth 20000 in
theorem dX2_sameRounds_4 : decode cX2_sameRounds 4 = .ok (.iconst 0, 1) := by decide +kernel
set_option maxRecDepth 20000 in
theorem dX2_sameRounds_5 : decode cX2_sameRounds 5 = .ok (.istore 4, 2) := by decide +kernel
set_option maxRecDepth 20000 in
theorem dX2_sameRounds_7 : decode cX2_sameRounds 7 = .ok (.iload 4, 2) := by decide +kernel
set_option maxRecDepth 20000 in
theorem dX2_sameRounds_9 : decode cX2_sameRounds 9 = .ok (.aload_n 0, 1) := by decide +kernel
set_option maxRecDepth 20000 in
theorem dX2_sameRounds_10 : decode cX2_sameRounds 10 = .ok (.getfield 15, 3) := by decide +kernel
set_option maxRecDepth 20000 in
theorem dX2_sameRounds_13 : decode cX2_sameRounds 13 = .ok (.if_icmp .ge 55, 3) := by decide +kernel
set_option maxRecDepth 20000 in
theorem dX2_sameRounds_16 : decode cX2_sameRounds 16 = .ok (.iload 4, 2) := by decide +kernel
set_option maxRecDepth 20000 in
theorem dX2_sameRounds_18 : decode cX2_sameRounds 18 = .ok (.ifCond .le 28, 3) := by decide +kernel
set_option maxRecDepth 20000 in
theorem dX2_sameRounds_21 : decode cX2_sameRounds 21 = .ok (.aload_n 0, 1) := by decide +kernel
set_option maxRecDepth 20000 in
theorem dX2_sameRounds_22 : decode cX2_sameRounds 22 = .ok (.getfield 9, 3) := by decide +kernel
set_option maxRecDepth 20000 in
theorem dX2_sameRounds_25 : decode cX2_sameRounds 25 = .ok (.iload 4, 2) := by decide +kernel
set_option maxRecDepth 20000 in
theorem dX2_sameRounds_27 : decode cX2_sameRounds 27 = .ok (.iaload, 1) := by decide +kernel
set_option maxRecDepth 20000 in
theorem dX2_sameRounds_28 : decode cX2_sameRounds 28 = .ok (.aload_n 0, 1) := by decide +kernel
set_option maxRecDepth 20000 in
theorem dX2_sameRounds_29 : decode cX2_sameRounds 29 = .ok (.getfield 9, 3) := by decide +kernel
set_option maxRecDepth 20000 in
theorem dX2_sameRounds_32 : decode cX2_sameRounds 32 = .ok (.iload 4, 2) := by decide +kernel
set_option maxRecDepth 20000 in
theorem dX2_sameRounds_34 : decode cX2_sameRounds 34 = .ok (.iconst 1, 1) := by decide +kernel
set_option maxRecDepth 20000 in
theorem dX2_sameRounds_35 : decode cX2_sameRounds 35 = .ok (.isub, 1) := by decide +kernel
set_option maxRecDepth 20000 in
theorem dX2_sameRounds_36 : decode cX2_sameRounds 36 = .ok (.iaload, 1) := by decide +kernel
set_option maxRecDepth 20000 in
theorem dX2_sameRounds_37 : decode cX2_sameRounds 37 = .ok (.if_icmp .ne 9, 3) := by decide +kernel
set_option maxRecDepth 20000 in
theorem dX2_sameRounds_40 : decode cX2_sameRounds 40 = .ok (.iload_n 3, 1) := by decide +kernel
set_option maxRecDepth 20000 in
theorem dX2_sameRounds_41 : decode cX2_sameRounds 41 = .ok (.iconst 1, 1) := by decide +kernel
set_option maxRecDepth 20000 in
theorem dX2_sameRounds_42 : decode cX2_sameRounds 42 = .ok (.iadd, 1) := by decide +kernel
set_option maxRecDepth 20000 in
theorem dX2_sameRounds_43 : decode cX2_sameRounds 43 = .ok (.goto 4, 3) := by decide +kernel
set_option maxRecDepth 20000 in
theorem dX2_sameRounds_46 : decode cX2_sameRounds 46 = .ok (.iconst 1, 1) := by decide +kernel
set_option maxRecDepth 20000 in
theorem dX2_sameRounds_47 : decode cX2_sameRounds 47 = .ok (.istore_n 3, 1) := by decide +kernel
set_option maxRecDepth 20000 in
theorem dX2_sameRounds_48 : decode cX2_sameRounds 48 = .ok (.lload_n 1, 1) := by decide +kernel
set_option maxRecDepth 20000 in
theorem dX2_sameRounds_49 : decode cX2_sameRounds 49 = .ok (.aload_n 0, 1) := by decide +kernel
set_option maxRecDepth 20000 in
theorem dX2_sameRounds_50 : decode cX2_sameRounds 50 = .ok (.getfield 9, 3) := by decide +kernel
set_option maxRecDepth 20000 in
theorem dX2_sameRounds_53 : decode cX2_sameRounds 53 = .ok (.iload 4, 2) := by decide +kernel
set_option maxRecDepth 20000 in
theorem dX2_sameRounds_55 : decode cX2_sameRounds 55 = .ok (.iaload, 1) := by decide +kernel
set_option maxRecDepth 20000 in
theorem dX2_sameRounds_56 : decode cX2_sameRounds 56 = .ok (.i2l, 1) := by decide +kernel
set_option maxRecDepth 20000 in
theorem dX2_sameRounds_57 : decode cX2_sameRounds 57 = .ok (.iload_n 3, 1) := by decide +kernel
set_option maxRecDepth 20000 in
theorem dX2_sameRounds_58 : decode cX2_sameRounds 58 = .ok (.i2l, 1) := by decide +kernel
set_option maxRecDepth 20000 in
theorem dX2_sameRounds_59 : decode cX2_sameRounds 59 = .ok (.lmul, 1) := by decide +kernel
set_option maxRecDepth 20000 in
theorem dX2_sameRounds_60 : decode cX2_sameRounds 60 = .ok (.lmul, 1) := by decide +kernel
set_option maxRecDepth 20000 in
theorem dX2_sameRounds_61 : decode cX2_sameRounds 61 = .ok (.lstore_n 1, 1) := by decide +kernel
set_option maxRecDepth 20000 in
theorem dX2_sameRounds_62 : decode cX2_sameRounds 62 = .ok (.iinc 4 1, 3) := by decide +kernel
set_option maxRecDepth 20000 in
theorem dX2_sameRounds_65 : decode cX2_sameRounds 65 = .ok (.goto (-58), 3) := by decide +kernel
set_option maxRecDepth 20000 in
theorem dX2_sameRounds_68 : decode cX2_sameRounds 68 = .ok (.lload_n 1, 1) := by decide +kernel
set_option maxRecDepth 20000 in
theorem dX2_sameRounds_69 : decode cX2_sameRounds 69 = .ok (.lreturn, 1) := by decide +kernel
set_option maxRecDepth 20000 in
theorem dX2_turns_0 : decode cX2_turns 0 = .ok (.iconst 1, 1) := by decide +kernel
set_option maxRecDepth 20000 in
theorem dX2_turns_1 : decode cX2_turns 1 = .ok (.istore_n 1, 1) := by decide +kernel
set_option maxRecDepth 20000 in
theorem dX2_turns_2 : decode cX2_turns 2 = .ok (.iconst 0, 1) := by decide +kernel
set_option maxRecDepth 20000 in
theorem dX2_turns_3 : decode cX2_turns 3 = .ok (.istore_n 2, 1) := by decide +kernel
set_option maxRecDepth 20000 in
theorem dX2_turns_4 : decode cX2_turns 4 = .ok (.iload_n 2, 1) := by decide +kernel
set_option maxRecDepth 20000 in
theorem dX2_turns_5 : decode cX2_turns 5 = .ok (.aload_n 0, 1) := by decide +kernel
set_option maxRecDepth 20000 in
theorem dX2_turns_6 : decode cX2_turns 6 = .ok (.getfield 15, 3) := by decide +kernel
set_option maxRecDepth 20000 in
theorem dX2_turns_9 : decode cX2_turns 9 = .ok (.if_icmp .ge 20, 3) := by decide +kernel
set_option maxRecDepth 20000 in
theorem dX2_turns_12 : decode cX2_turns 12 = .ok (.iload_n 1, 1) := by decide +kernel
set_option maxRecDepth 20000 in
theorem dX2_turns_13 : decode cX2_turns 13 = .ok (.aload_n 0, 1) := by decide +kernel
set_option maxRecDepth 20000 in
theorem dX2_turns_14 : decode cX2_turns 14 = .ok (.getfield 9, 3) := by decide +kernel
set_option maxRecDepth 20000 in
theorem dX2_turns_17 : decode cX2_turns 17 = .ok (.iload_n 2, 1) := by decide +kernel
set_option maxRecDepth 20000 in
theorem dX2_turns_18 : decode cX2_turns 18 = .ok (.iaload, 1) := by decide +kernel
set_option maxRecDepth 20000 in
theorem dX2_turns_19 : decode cX2_turns 19 = .ok (.invokestatic 25, 3) := by decide +kernel
set_option maxRecDepth 20000 in
theorem dX2_turns_22 : decode cX2_turns 22 = .ok (.istore_n 1, 1) := by decide +kernel
set_option maxRecDepth 20000 in
theorem dX2_turns_23 : decode cX2_turns 23 = .ok (.iinc 2 1, 3) := by decide +kernel
set_option maxRecDepth 20000 in
theorem dX2_turns_26 : decode cX2_turns 26 = .ok (.goto (-22), 3) := by decide +kernel
set_option maxRecDepth 20000 in
theorem dX2_turns_29 : decode cX2_turns 29 = .ok (.iload_n 1, 1) := by decide +kernel
set_option maxRecDepth 20000 in
theorem dX2_turns_30 : decode cX2_turns 30 = .ok (.ireturn, 1) := by decide +kernel
set_option maxRecDepth 20000 in
theorem dX3_init_0 : decode cX3_init 0 = .ok (.aload_n 0, 1) := by decide +kernel
set_option maxRecDepth 20000 in
theorem dX3_init_1 : decode cX3_init 1 = .ok (.invokespecial 3, 3) := by decide +kernel
set_option maxRecDepth 20000 in
theorem dX3_init_4 : decode cX3_init 4 = .ok (.aload_n 0, 1) := by decide +kernel
set_option maxRecDepth 20000 in
theorem dX3_init_5 : decode cX3_init 5 = .ok (.bipush 19, 2) := by decide +kernel
set_option maxRecDepth 20000 in
theorem dX3_init_7 : decode cX3_init 7 = .ok (.newarray .long, 2) := by decide +kernel
set_option maxRecDepth 20000 in
theorem dX3_init_9 : decode cX3_init 9 = .ok (.putfield 9, 3) := by decide +kernel
set_option maxRecDepth 20000 in
theorem dX3_init_12 : decode cX3_init 12 = .ok (.aload_n 0, 1) := by decide +kernel
set_option maxRecDepth 20000 in
theorem dX3_init_13 : decode cX3_init 13 = .ok (.bipush 19, 2) := by decide +kernel
set_option maxRecDepth 20000 in
theorem dX3_init_15 : decode cX3_init 15 = .ok (.newarray .long, 2) := by decide +kernel
set_option maxRecDepth 20000 in
theorem dX3_init_17 : decode cX3_init 17 = .ok (.putfield 15, 3) := by decide +kernel
set_option maxRecDepth 20000 in
theorem dX3_init_20 : decode cX3_init 20 = .ok (.aload_n 0, 1) := by decide +kernel
set_option maxRecDepth 20000 in
theorem dX3_init_21 : decode cX3_init 21 = .ok (.bipush 19, 2) := by decide +kernel
set_option maxRecDepth 20000 in
theorem dX3_init_23 : decode cX3_init 23 = .ok (.bipush 19, 2) := by decide +kernel
set_option maxRecDepth 20000 in
theorem dX3_init_25 : decode cX3_init 25 = .ok (.multianewarray 18 2, 4) := by decide +kernel
set_option maxRecDepth 20000 in
theorem dX3_init_29 : decode cX3_init 29 = .ok (.putfield 20, 3) := by decide +kernel
set_option maxRecDepth 20000 in
theorem dX3_init_32 : decode cX3_init 32 = .ok (.aload_n 0, 1) := by decide +kernel
set_option maxRecDepth 20000 in
theorem dX3_init_33 : decode cX3_init 33 = .ok (.bipush 19, 2) := by decide +kernel
set_option maxRecDepth 20000 in
theorem dX3_init_35 : decode cX3_init 35 = .ok (.bipush 19, 2) := by decide +kernel
set_option maxRecDepth 20000 in
theorem dX3_init_37 : decode cX3_init 37 = .ok (.multianewarray 18 2, 4) := by decide +kernel
set_option maxRecDepth 20000 in
theorem dX3_init_41 : decode cX3_init 41 = .ok (.putfield 23, 3) := by decide +kernel
set_option maxRecDepth 20000 in
theorem dX3_init_44 : decode cX3_init 44 = .ok (.aload_n 0, 1) := by decide +kernel
set_option maxRecDepth 20000 in
theorem dX3_init_45 : decode cX3_init 45 = .ok (.bipush 19, 2) := by decide +kernel
set_option maxRecDepth 20000 in
theorem dX3_init_47 : decode cX3_init 47 = .ok (.iconst 0, 1) := by decide +kernel
set_option maxRecDepth 20000 in
theorem dX3_init_48 : decode cX3_init 48 = .ok (.iconst 0, 1) := by decide +kernel
set_option maxRecDepth 20000 in
theorem dX3_init_49 : decode cX3_init 49 = .ok (.invokestatic 26, 3) := by decide +kernel
set_option maxRecDepth 20000 in
theorem dX3_init_52 : decode cX3_init 52 = .ok (.newarray .long, 2) := by decide +kernel
set_option maxRecDepth 20000 in
theorem dX3_init_54 : decode cX3_init 54 = .ok (.putfield 30, 3) := by decide +kernel
set_option maxRecDepth 20000 in
theorem dX3_init_57 : decode cX3_init 57 = .ok (.aload_n 0, 1) := by decide +kernel
set_option maxRecDepth 20000 in
theorem dX3_init_58 : decode cX3_init 58 = .ok (.invokevirtual 33, 3) := by decide +kernel
set_option maxRecDepth 20000 in
theorem dX3_init_61 : decode cX3_init 61 = .ok (.aload_n 0, 1) := by decide +kernel
set_option maxRecDepth 20000 in
theorem dX3_init_62 : decode cX3_init 62 = .ok (.invokevirtual 36, 3) := by decide +kernel
set_option maxRecDepth 20000 in
theorem dX3_init_65 : decode cX3_init 65 = .ok (.aload_n 0, 1) := by decide +kernel
set_option maxRecDepth 20000 in
theorem dX3_init_66 : decode cX3_init 66 = .ok (.invokevirtual 39, 3) := by decide +kernel
set_option maxRecDepth 20000 in
theorem dX3_init_69 : decode cX3_init 69 = .ok (.aload_n 0, 1) := by decide +kernel
set_option maxRecDepth 20000 in
theorem dX3_init_70 : decode cX3_init 70 = .ok (.invokevirtual 42, 3) := by decide +kernel
set_option maxRecDepth 20000 in
theorem dX3_init_73 : decode cX3_init 73 = .ok (.aload_n 0, 1) := by decide +kernel
set_option maxRecDepth 20000 in
theorem dX3_init_74 : decode cX3_init 74 = .ok (.invokevirtual 45, 3) := by decide +kernel
set_option maxRecDepth 20000 in
theorem dX3_init_77 : decode cX3_init 77 = .ok (.return_, 1) := by decide +kernel
set_option maxRecDepth 20000 in
theorem dX3_fillFactorials_0 : decode cX3_fillFactorials 0 = .ok (.aload_n 0, 1) := by decide +kernel
set_option maxRecDepth 20000 in
theorem dX3_fillFactorials_1 : decode cX3_fillFactorials 1 = .ok (.getfield 9, 3) := by decide +kernel
set_option maxRecDepth 20000 in
theorem dX3_fillFactorials_4 : decode cX3_fillFactorials 4 = .ok (.iconst 0, 1) := by decide +kernel
set_option maxRecDepth 20000 in
theorem dX3_fillFactorials_5 : decode cX3_fillFactorials 5 = .ok (.lconst 1, 1) := by decide +kernel
set_option maxRecDepth 20000 in
theorem dX3_fillFactorials_6 : decode cX3_fillFactorials 6 = .ok (.lastore, 1) := by decide +kernel
set_option maxRecDepth 20000 in
theorem dX3_fillFactorials_7 : decode cX3_fillFactorials 7 = .ok (.iconst 1, 1) := by decide +kernel
set_option maxRecDepth 20000 in
theorem dX3_fillFactorials_8 : decode cX3_fillFactorials 8 = .ok (.istore_n 1, 1) := by decide +kernel
set_option maxRecDepth 20000 in
theorem dX3_fillFactorials_9 : decode cX3_fillFactorials 9 = .ok (.iload_n 1, 1) := by decide +kernel
set_option maxRecDepth 20000 in
theorem dX3_fillFactorials_10 : decode cX3_fillFactorials 10 = .ok (.bipush 18, 2) := by decide +kernel
set_option maxRecDepth 20000 in
theorem dX3_fillFactorials_12 : decode cX3_fillFactorials 12 = .ok (.if_icmp .gt 26, 3) := by decide +kernel
set_option maxRecDepth 20000 in
theorem dX3_fillFactorials_15 : decode cX3_fillFactorials 15 = .ok (.aload_n 0, 1) := by decide +kernel
set_option maxRecDepth 20000 in
theorem dX3_fillFactorials_16 : decode cX3_fillFactorials 16 = .ok (.getfield 9, 3) := by decide +kernel
set_option maxRecDepth 20000 in
theorem dX3_fillFactorials_19 : decode cX3_fillFactorials 19 = .ok (.iload_n 1, 1) := by decide +kernel
set_option maxRecDepth 20000 in
theorem dX3_fillFactorials_20 : decode cX3_fillFactorials 20 = .ok (.aload_n 0, 1) := by decide +kernel
set_option maxRecDepth 20000 in
theorem dX3_fillFactorials_21 : decode cX3_fillFactorials 21 = .ok (.getfield 9, 3) := by decide +kernel
set_option maxRecDepth 20000 in
theorem dX3_fillFactorials_24 : decode cX3_fillFactorials 24 = .ok (.iload_n 1, 1) := by decide +kernel
set_option maxRecDepth 20000 in
theorem dX3_fillFactorials_25 : decode cX3_fillFactorials 25 = .ok (.iconst 1, 1) := by decide +kernel
set_option maxRecDepth 20000 in
theorem dX3_fillFactorials_26 : decode cX3_fillFactorials 26 = .ok (.isub, 1) := by decide +kernel
set_option maxRecDepth 20000 in
theorem dX3_fillFactorials_27 : decode cX3_fillFactorials 27 = .ok (.laload, 1) := by decide +kernel
set_option maxRecDepth 20000 in
theorem dX3_fillFactorials_28 : decode cX3_fillFactorials 28 = .ok (.iload_n 1, 1) := by decide +kernel
set_option maxRecDepth 20000 in
theorem dX3_fillFactorials_29 : decode cX3_fillFactorials 29 = .ok (.i2l, 1) := by decide +kernel
set_option maxRecDepth 20000 in
theorem dX3_fillFactorials_30 : decode cX3_fillFactorials 30 = .ok (.lmul, 1) := by decide +kernel
set_option maxRecDepth 20000 in
theorem dX3_fillFactorials_31 : decode cX3_fillFactorials 31 = .ok (.lastore, 1) := by decide +kernel
set_option maxRecDepth 20000 in
theorem dX3_fillFactorials_32 : decode cX3_fillFactorials 32 = .ok (.iinc 1 1, 3) := by decide +kernel
set_option maxRecDepth 20000 in
theorem dX3_fillFactorials_35 : decode cX3_fillFactorials 35 = .ok (.goto (-26), 3) := by decide +kernel
set_option maxRecDepth 20000 in
theorem dX3_fillFactorials_38 : decode cX3_fillFactorials 38 = .ok (.return_, 1) := by decide +kernel
set_option maxRecDepth 20000 in
theorem dX3_fillDeranged_0 : decode cX3_fillDeranged 0 = .ok (.aload_n 0, 1) := by decide +kernel
set_option maxRecDepth 20000 in
theorem dX3_fillDeranged_1 : decode cX3_fillDeranged 1 = .ok (.getfield 15, 3) := by decide +kernel
set_option maxRecDepth 20000 in
theorem dX3_fillDeranged_4 : decode cX3_fillDeranged 4 = .ok (.iconst 0, 1) := by decide +kernel
set_option maxRecDepth 20000 in
theorem dX3_fillDeranged_5 : decode cX3_fillDeranged 5 = .ok (.lconst 1, 1) := by decide +kernel
set_option maxRecDepth 20000 in
theorem dX3_fillDeranged_6 : decode cX3_fillDeranged 6 = .ok (.lastore, 1) := by decide +kernel
set_option maxRecDepth 20000 in
theorem dX3_fillDeranged_7 : decode cX3_fillDeranged 7 = .ok (.iconst 2, 1) := by decide +kernel
set_option maxRecDepth 20000 in
theorem dX3_fillDeranged_8 : decode cX3_fillDeranged 8 = .ok (.istore_n 1, 1) := by decide +kernel
set_option maxRecDepth 20000 in
theorem dX3_fillDeranged_9 : decode cX3_fillDeranged 9 = .ok (.iload_n 1, 1) := by decide +kernel
set_option maxRecDepth 20000 in
theorem dX3_fillDeranged_10 : decode cX3_fillDeranged 10 = .ok (.bipush 18, 2) := by decide +kernel
set_option maxRecDepth 20000 in
theorem dX3_fillDeranged_12 : decode cX3_fillDeranged 12 = .ok (.if_icmp .gt 37, 3) := by decide +kernel
set_option maxRecDepth 20000 in
theorem dX3_fillDeranged_15 : decode cX3_fillDeranged 15 = .ok (.aload_n 0, 1) := by decide +kernel
set_option maxRecDepth 20000 in
theorem dX3_fillDeranged_16 : decode cX3_fillDeranged 16 = .ok (.getfield 15, 3) := by decide +kernel
set_option maxRecDepth 20000 in
theorem dX3_fillDeranged_19 : decode cX3_fillDeranged 19 = .ok (.iload_n 1, 1) := by decide +kernel
set_option maxRecDepth 20000 in
theorem dX3_fillDeranged_20 : decode cX3_fillDeranged 20 = .ok (.iload_n 1, 1) := by decide +kernel
set_option maxRecDepth 20000 in
theorem dX3_fillDeranged_21 : decode cX3_fillDeranged 21 = .ok (.iconst 1, 1) := by decide +kernel
set_option maxRecDepth 20000 in
theorem dX3_fillDeranged_22 : decode cX3_fillDeranged 22 = .ok (.isub, 1) := by decide +kernel
set_option maxRecDepth 20000 in
theorem dX3_fillDeranged_23 : decode cX3_fillDeranged 23 = .ok (.i2l, 1) := by decide +kernel
set_option maxRecDepth 20000 in
theorem dX3_fillDeranged_24 : decode cX3_fillDeranged 24 = .ok (.aload_n 0, 1) := by decide +kernel
set_option maxRecDepth 20000 in
theorem dX3_fillDeranged_25 : decode cX3_fillDeranged 25 = .ok (.getfield 15, 3) := by decide +kernel
set_option maxRecDepth 20000 in
theorem dX3_fillDeranged_28 : decode cX3_fillDeranged 28 = .ok (.iload_n 1, 1) := by decide +kernel
set_option maxRecDepth 20000 in
theorem dX3_fillDeranged_29 : decode cX3_fillDeranged 29 = .ok (.iconst 1, 1) := by decide +kernel
set_option maxRecDepth 20000 in
theorem dX3_fillDeranged_30 : decode cX3_fillDeranged 30 = .ok (.isub, 1) := by decide +kernel
set_option maxRecDepth 20000 in
theorem dX3_fillDeranged_31 : decode cX3_fillDeranged 31 = .ok (.laload, 1) := by decide +kernel
set_option maxRecDepth 20000 in
theorem dX3_fillDeranged_32 : decode cX3_fillDeranged 32 = .ok (.aload_n 0, 1) := by decide +kernel
set_option maxRecDepth 20000 in
theorem dX3_fillDeranged_33 : decode cX3_fillDeranged 33 = .ok (.getfield 15, 3) := by decide +kernel
set_option maxRecDepth 20000 in
theorem dX3_fillDeranged_36 : decode cX3_fillDeranged 36 = .ok (.iload_n 1, 1) := by decide +kernel
set_option maxRecDepth 20000 in
theorem dX3_fillDeranged_37 : decode cX3_fillDeranged 37 = .ok (.iconst 2, 1) := by decide +kernel
set_option maxRecDepth 20000 in
theorem dX3_fillDeranged_38 : decode cX3_fillDeranged 38 = .ok (.isub, 1) := by decide +kernel
set_option maxRecDepth 20000 in
theorem dX3_fillDeranged_39 : decode cX3_fillDeranged 39 = .ok (.laload, 1) := by decide +kernel
set_option maxRecDepth 20000 in
theorem dX3_fillDeranged_40 : decode cX3_fillDeranged 40 = .ok (.ladd, 1) := by decide +kernel
set_option maxRecDepth 20000 in
theorem dX3_fillDeranged_41 : decode cX3_fillDeranged 41 = .ok (.lmul, 1) := by decide +kernel
set_option maxRecDepth 20000 in
theorem dX3_fillDeranged_42 : decode cX3_fillDeranged 42 = .ok (.lastore, 1) := by decide +kernel
set_option maxRecDepth 20000 in
theorem dX3_fillDeranged_43 : decode cX3_fillDeranged 43 = .ok (.iinc 1 1, 3) := by decide +kernel
set_option maxRecDepth 20000 in
theorem dX3_fillDeranged_46 : decode cX3_fillDeranged 46 = .ok (.goto (-37), 3) := by decide +kernel
set_option maxRecDepth 20000 in
theorem dX3_fillDeranged_49 : decode cX3_fillDeranged 49 = .ok (.return_, 1) := by decide +kernel
set_option maxRecDepth 20000 in
theorem dX3_fillRecords_0 : decode cX3_fillRecords 0 = .ok (.aload_n 0, 1) := by decide +kernel
set_option maxRecDepth 20000 in
theorem dX3_fillRecords_1 : decode cX3_fillRecords 1 = .ok (.getfield 20, 3) := by decide +kernel
set_option maxRecDepth 20000 in
theorem dX3_fillRecords_4 : decode cX3_fillRecords 4 = .ok (.iconst 0, 1) := by decide +kernel
set_option maxRecDepth 20000 in
theorem dX3_fillRecords_5 : decode cX3_fillRecords 5 = .ok (.aaload, 1) := by decide +kernel
set_option maxRecDepth 20000 in
theorem dX3_fillRecords_6 : decode cX3_fillRecords 6 = .ok (.iconst 0, 1) := by decide +kernel
set_option maxRecDepth 20000 in
theorem dX3_fillRecords_7 : decode cX3_fillRecords 7 = .ok (.lconst 1, 1) := by decide +kernel
set_option maxRecDepth 20000 in
theorem dX3_fillRecords_8 : decode cX3_fillRecords 8 = .ok (.lastore, 1) := by decide +kernel
set_option maxRecDepth 20000 in
theorem dX3_fillRecords_9 : decode cX3_fillRecords 9 = .ok (.iconst 1, 1) := by decide +kernel
set_option maxRecDepth 20000 in
theorem dX3_fillRecords_10 : decode cX3_fillRecords 10 = .ok (.istore_n 1, 1) := by decide +kernel
set_option maxRecDepth 20000 in
theorem dX3_fillRecords_11 : decode cX3_fillRecords 11 = .ok (.iload_n 1, 1) := by decide +kernel
set_option maxRecDepth 20000 in
theorem dX3_fillRecords_12 : decode cX3_fillRecords 12 = .ok (.bipush 18, 2) := by decide +kernel
set_option maxRecDepth 20000 in
theorem dX3_fillRecords_14 : decode cX3_fillRecords 14 = .ok (.if_icmp .gt 58, 3) := by decide +kernel
set_option maxRecDepth 20000 in
theorem dX3_fillRecords_17 : decode cX3_fillRecords 17 = .ok (.iconst 1, 1) := by decide +kernel
set_option maxRecDepth 20000 in
theorem dX3_fillRecords_18 : decode cX3_fillRecords 18 = .ok (.istore_n 2, 1) := by decide +kernel
set_option maxRecDepth 20000 in
theorem dX3_fillRecords_19 : decode cX3_fillRecords 19 = .ok (.iload_n 2, 1) := by decide +kernel
set_option maxRecDepth 20000 in
theorem dX3_fillRecords_20 : decode cX3_fillRecords 20 = .ok (.iload_n 1, 1) := by decide +kernel
set_option maxRecDepth 20000 in
theorem dX3_fillRecords_21 : decode cX3_fillRecords 21 = .ok (.if_icmp .gt 45, 3) := by decide +kernel
set_option maxRecDepth 20000 in
theorem dX3_fillRecords_24 : decode cX3_fillRecords 24 = .ok (.aload_n 0, 1) := by decide +kernel
set_option maxRecDepth 20000 in
theorem dX3_fillRecords_25 : decode cX3_fillRecords 25 = .ok (.getfield 20, 3) := by decide +kernel
set_option maxRecDepth 20000 in
theorem dX3_fillRecords_28 : decode cX3_fillRecords 28 = .ok (.iload_n 1, 1) := by decide +kernel
set_option maxRecDepth 20000 in
theorem dX3_fillRecords_29 : decode cX3_fillRecords 29 = .ok (.aaload, 1) := by decide +kernel
set_option maxRecDepth 20000 in
theorem dX3_fillRecords_30 : decode cX3_fillRecords 30 = .ok (.iload_n 2, 1) := by decide +kernel
set_option maxRecDepth 20000 in
theorem dX3_fillRecords_31 : decode cX3_fillRecords 31 = .ok (.aload_n 0, 1) := by decide +kernel
set_option maxRecDepth 20000 in
theorem dX3_fillRecords_32 : decode cX3_fillRecords 32 = .ok (.getfield 20, 3) := by decide +kernel
set_option maxRecDepth 20000 in
theorem dX3_fillRecords_35 : decode cX3_fillRecords 35 = .ok (.iload_n 1, 1) := by decide +kernel
set_option maxRecDepth 20000 in
theorem dX3_fillRecords_36 : decode cX3_fillRecords 36 = .ok (.iconst 1, 1) := by decide +kernel
set_option maxRecDepth 20000 in
theorem dX3_fillRecords_37 : decode cX3_fillRecords 37 = .ok (.isub, 1) := by decide +kernel
set_option maxRecDepth 20000 in
theorem dX3_fillRecords_38 : decode cX3_fillRecords 38 = .ok (.aaload, 1) := by decide +kernel
set_option maxRecDepth 20000 in
theorem dX3_fillRecords_39 : decode cX3_fillRecords 39 = .ok (.iload_n 2, 1) := by decide +kernel
set_option maxRecDepth 20000 in
theorem dX3_fillRecords_40 : decode cX3_fillRecords 40 = .ok (.iconst 1, 1) := by decide +kernel
set_option maxRecDepth 20000 in
theorem dX3_fillRecords_41 : decode cX3_fillRecords 41 = .ok (.isub, 1) := by decide +kernel
set_option maxRecDepth 20000 in
theorem dX3_fillRecords_42 : decode cX3_fillRecords 42 = .ok (.laload, 1) := by decide +kernel
set_option maxRecDepth 20000 in
theorem dX3_fillRecords_43 : decode cX3_fillRecords 43 = .ok (.iload_n 1, 1) := by decide +kernel
set_option maxRecDepth 20000 in
theorem dX3_fillRecords_44 : decode cX3_fillRecords 44 = .ok (.iconst 1, 1) := by decide +kernel
set_option maxRecDepth 20000 in
theorem dX3_fillRecords_45 : decode cX3_fillRecords 45 = .ok (.isub, 1) := by decide +kernel
set_option maxRecDepth 20000 in
theorem dX3_fillRecords_46 : decode cX3_fillRecords 46 = .ok (.i2l, 1) := by decide +kernel
set_option maxRecDepth 20000 in
theorem dX3_fillRecords_47 : decode cX3_fillRecords 47 = .ok (.aload_n 0, 1) := by decide +kernel
set_option maxRecDepth 20000 in
theorem dX3_fillRecords_48 : decode cX3_fillRecords 48 = .ok (.getfield 20, 3) := by decide +kernel
set_option maxRecDepth 20000 in
theorem dX3_fillRecords_51 : decode cX3_fillRecords 51 = .ok (.iload_n 1, 1) := by decide +kernel
set_option maxRecDepth 20000 in
theorem dX3_fillRecords_52 : decode cX3_fillRecords 52 = .ok (.iconst 1, 1) := by decide +kernel
set_option maxRecDepth 20000 in
theorem dX3_fillRecords_53 : decode cX3_fillRecords 53 = .ok (.isub, 1) := by decide +kernel
set_option maxRecDepth 20000 in
theorem dX3_fillRecords_54 : decode cX3_fillRecords 54 = .ok (.aaload, 1) := by decide +kernel
set_option maxRecDepth 20000 in
theorem dX3_fillRecords_55 : decode cX3_fillRecords 55 = .ok (.iload_n 2, 1) := by decide +kernel
set_option maxRecDepth 20000 in
theorem dX3_fillRecords_56 : decode cX3_fillRecords 56 = .ok (.laload, 1) := by decide +kernel
set_option maxRecDepth 20000 in
theorem dX3_fillRecords_57 : decode cX3_fillRecords 57 = .ok (.lmul, 1) := by decide +kernel
set_option maxRecDepth 20000 in
theorem dX3_fillRecords_58 : decode cX3_fillRecords 58 = .ok (.ladd, 1) := by decide +kernel
set_option maxRecDepth 20000 in
theorem dX3_fillRecords_59 : decode cX3_fillRecords 59 = .ok (.lastore, 1) := by decide +kernel
set_option maxRecDepth 20000 in
theorem dX3_fillRecords_60 : decode cX3_fillRecords 60 = .ok (.iinc 2 1, 3) := by decide +kernel
set_option maxRecDepth 20000 in
theorem dX3_fillRecords_63 : decode cX3_fillRecords 63 = .ok (.goto (-44), 3) := by decide +kernel
set_option maxRecDepth 20000 in
theorem dX3_fillRecords_66 : decode cX3_fillRecords 66 = .ok (.iinc 1 1, 3) := by decide +kernel
set_option maxRecDepth 20000 in
theorem dX3_fillRecords_69 : decode cX3_fillRecords 69 = .ok (.goto (-58), 3) := by decide +kernel
set_option maxRecDepth 20000 in
theorem dX3_fillRecords_72 : decode cX3_fillRecords 72 = .ok (.return_, 1) := by decide +kernel
set_option maxRecDepth 20000 in
theorem dX3_fillRoundsUpTo_0 : decode cX3_fillRoundsUpTo 0 = .ok (.iconst 0, 1) := by decide +kernel
set_option maxRecDepth 20000 in
theorem dX3_fillRoundsUpTo_1 : decode cX3_fillRoundsUpTo 1 = .ok (.istore_n 1, 1) := by decide +kernel
set_option maxRecDepth 20000 in
theorem dX3_fillRoundsUpTo_2 : decode cX3_fillRoundsUpTo 2 = .ok (.iload_n 1, 1) := by decide +kernel
set_option maxRecDepth 20000 in
theorem dX3_fillRoundsUpTo_3 : decode cX3_fillRoundsUpTo 3 = .ok (.bipush 18, 2) := by decide +kernel
set_option maxRecDepth 20000 in
theorem dX3_fillRoundsUpTo_5 : decode cX3_fillRoundsUpTo 5 = .ok (.if_icmp .gt 46, 3) := by decide +kernel
set_option maxRecDepth 20000 in
theorem dX3_fillRoundsUpTo_8 : decode cX3_fillRoundsUpTo 8 = .ok (.aload_n 0, 1) := by decide +kernel
set_option maxRecDepth 20000 in
theorem dX3_fillRoundsUpTo_9 : decode cX3_fillRoundsUpTo 9 = .ok (.getfield 23, 3) := by decide +kernel
set_option maxRecDepth 20000 in
theorem dX3_fillRoundsUpTo_12 : decode cX3_fillRoundsUpTo 12 = .ok (.iload_n 1, 1) := by decide +kernel
set_option maxRecDepth 20000 in
theorem dX3_fillRoundsUpTo_13 : decode cX3_fillRoundsUpTo 13 = .ok (.aaload, 1) := by decide +kernel
set_option maxRecDepth 20000 in
theorem dX3_fillRoundsUpTo_14 : decode cX3_fillRoundsUpTo 14 = .ok (.iconst 0, 1) := by decide +kernel
set_option maxRecDepth 20000 in
theorem dX3_fillRoundsUpTo_15 : decode cX3_fillRoundsUpTo 15 = .ok (.lconst 1, 1) := by decide +kernel
set_option maxRecDepth 20000 in
theorem dX3_fillRoundsUpTo_16 : decode cX3_fillRoundsUpTo 16 = .ok (.lastore, 1) := by decide +kernel
set_option maxRecDepth 20000 in
theorem dX3_fillRoundsUpTo_17 : decode cX3_fillRoundsUpTo 17 = .ok (.iconst 1, 1) := by decide +kernel
set_option maxRecDepth 20000 in
theorem dX3_fillRoundsUpTo_18 : decode cX3_fillRoundsUpTo 18 = .ok (.istore_n 2, 1) := by decide +kernel
set_option maxRecDepth 20000 in
theorem dX3_fillRoundsUpTo_19 : decode cX3_fillRoundsUpTo 19 = .ok (.iload_n 2, 1) := by decide +kernel
set_option maxRecDepth 20000 in
theorem dX3_fillRoundsUpTo_20 : decode cX3_fillRoundsUpTo 20 = .ok (.bipush 18, 2) := by decide +kernel
set_option maxRecDepth 20000 in
theorem dX3_fillRoundsUpTo_22 : decode cX3_fillRoundsUpTo 22 = .ok (.if_icmp .gt 23, 3) := by decide +kernel
set_option maxRecDepth 20000 in
theorem dX3_fillRoundsUpTo_25 : decode cX3_fillRoundsUpTo 25 = .ok (.aload_n 0, 1) := by decide +kernel
set_option maxRecDepth 20000 in
theorem dX3_fillRoundsUpTo_26 : decode cX3_fillRoundsUpTo 26 = .ok (.getfield 23, 3) := by decide +kernel
set_option maxRecDepth 20000 in
theorem dX3_fillRoundsUpTo_29 : decode cX3_fillRoundsUpTo 29 = .ok (.iload_n 1, 1) := by decide +kernel
set_option maxRecDepth 20000 in
theorem dX3_fillRoundsUpTo_30 : decode cX3_fillRoundsUpTo 30 = .ok (.aaload, 1) := by decide +kernel
set_option maxRecDepth 20000 in
theorem dX3_fillRoundsUpTo_31 : decode cX3_fillRoundsUpTo 31 = .ok (.iload_n 2, 1) := by decide +kernel
set_option maxRecDepth 20000 in
theorem dX3_fillRoundsUpTo_32 : decode cX3_fillRoundsUpTo 32 = .ok (.aload_n 0, 1) := by decide +kernel
set_option maxRecDepth 20000 in
theorem dX3_fillRoundsUpTo_33 : decode cX3_fillRoundsUpTo 33 = .ok (.iload_n 1, 1) := by decide +kernel
set_option maxRecDepth 20000 in
theorem dX3_fillRoundsUpTo_34 : decode cX3_fillRoundsUpTo 34 = .ok (.iload_n 2, 1) := by decide +kernel
set_option maxRecDepth 20000 in
theorem dX3_fillRoundsUpTo_35 : decode cX3_fillRoundsUpTo 35 = .ok (.invokevirtual 48, 3) := by decide +kernel
set_option maxRecDepth 20000 in
theorem dX3_fillRoundsUpTo_38 : decode cX3_fillRoundsUpTo 38 = .ok (.lastore, 1) := by decide +kernel
set_option maxRecDepth 20000 in
theorem dX3_fillRoundsUpTo_39 : decode cX3_fillRoundsUpTo 39 = .ok (.iinc 2 1, 3) := by decide +kernel
set_option maxRecDepth 20000 in
theorem dX3_fillRoundsUpTo_42 : decode cX3_fillRoundsUpTo 42 = .ok (.goto (-23), 3) := by decide +kernel
set_option maxRecDepth 20000 in
theorem dX3_fillRoundsUpTo_45 : decode cX3_fillRoundsUpTo 45 = .ok (.iinc 1 1, 3) := by decide +kernel
set_option maxRecDepth 20000 in
theorem dX3_fillRoundsUpTo_48 : decode cX3_fillRoundsUpTo 48 = .ok (.goto (-46), 3) := by decide +kernel
set_option maxRecDepth 20000 in
theorem dX3_fillRoundsUpTo_51 : decode cX3_fillRoundsUpTo 51 = .ok (.return_, 1) := by decide +kernel
set_option maxRecDepth 20000 in
theorem dX3_sumByRoundOfLast_0 : decode cX3_sumByRoundOfLast 0 = .ok (.lconst 0, 1) := by decide +kernel
set_option maxRecDepth 20000 in
theorem dX3_sumByRoundOfLast_1 : decode cX3_sumByRoundOfLast 1 = .ok (.lstore_n 3, 1) := by decide +kernel
set_option maxRecDepth 20000 in
theorem dX3_sumByRoundOfLast_2 : decode cX3_sumByRoundOfLast 2 = .ok (.lconst 1, 1) := by decide +kernel
set_option maxRecDepth 20000 in
theorem dX3_sumByRoundOfLast_3 : decode cX3_sumByRoundOfLast 3 = .ok (.lstore 5, 2) := by decide +kernel
set_option maxRecDepth 20000 in
theorem dX3_sumByRoundOfLast_5 : decode cX3_sumByRoundOfLast 5 = .ok (.iconst 1, 1) := by decide +kernel
set_option maxRecDepth 20000 in
theorem dX3_sumByRoundOfLast_6 : decode cX3_sumByRoundOfLast 6 = .ok (.istore 7, 2) := by decide +kernel
set_option maxRecDepth 20000 in
theorem dX3_sumByRoundOfLast_8 : decode cX3_sumByRoundOfLast 8 = .ok (.iload 7, 2) := by decide +kernel
set_option maxRecDepth 20000 in
theorem dX3_sumByRoundOfLast_10 : decode cX3_sumByRoundOfLast 10 = .ok (.iload_n 2, 1) := by decide +kernel
set_option maxRecDepth 20000 in
theorem dX3_sumByRoundOfLast_11 : decode cX3_sumByRoundOfLast 11 = .ok (.if_icmp .gt 42, 3) := by decide +kernel
set_option maxRecDepth 20000 in
theorem dX3_sumByRoundOfLast_14 : decode cX3_sumByRoundOfLast 14 = .ok (.iload 7, 2) := by decide +kernel
set_option maxRecDepth 20000 in
theorem dX3_sumByRoundOfLast_16 : decode cX3_sumByRoundOfLast 16 = .ok (.iload_n 1, 1) := by decide +kernel
set_option maxRecDepth 20000 in
theorem dX3_sumByRoundOfLast_17 : decode cX3_sumByRoundOfLast 17 = .ok (.if_icmp .gt 36, 3) := by decide +kernel
set_option maxRecDepth 20000 in
theorem dX3_sumByRoundOfLast_20 : decode cX3_sumByRoundOfLast 20 = .ok (.lload_n 3, 1) := by decide +kernel
set_option maxRecDepth 20000 in
theorem dX3_sumByRoundOfLast_21 : decode cX3_sumByRoundOfLast 21 = .ok (.lload 5, 2) := by decide +kernel
set_option maxRecDepth 20000 in
theorem dX3_sumByRoundOfLast_23 : decode cX3_sumByRoundOfLast 23 = .ok (.aload_n 0, 1) := by decide +kernel
set_option maxRecDepth 20000 in
theorem dX3_sumByRoundOfLast_24 : decode cX3_sumByRoundOfLast 24 = .ok (.getfield 23, 3) := by decide +kernel
set_option maxRecDepth 20000 in
theorem dX3_sumByRoundOfLast_27 : decode cX3_sumByRoundOfLast 27 = .ok (.iload_n 1, 1) := by decide +kernel
set_option maxRecDepth 20000 in
theorem dX3_sumByRoundOfLast_28 : decode cX3_sumByRoundOfLast 28 = .ok (.aaload, 1) := by decide +kernel
set_option maxRecDepth 20000 in
theorem dX3_sumByRoundOfLast_29 : decode cX3_sumByRoundOfLast 29 = .ok (.iload_n 2, 1) := by decide +kernel
set_option maxRecDepth 20000 in
theorem dX3_sumByRoundOfLast_30 : decode cX3_sumByRoundOfLast 30 = .ok (.iload 7, 2) := by decide +kernel
set_option maxRecDepth 20000 in
theorem dX3_sumByRoundOfLast_32 : decode cX3_sumByRoundOfLast 32 = .ok (.isub, 1) := by decide +kernel
set_option maxRecDepth 20000 in
theorem dX3_sumByRoundOfLast_33 : decode cX3_sumByRoundOfLast 33 = .ok (.laload, 1) := by decide +kernel
set_option maxRecDepth 20000 in
theorem dX3_sumByRoundOfLast_34 : decode cX3_sumByRoundOfLast 34 = .ok (.lmul, 1) := by decide +kernel
set_option maxRecDepth 20000 in
theorem dX3_sumByRoundOfLast_35 : decode cX3_sumByRoundOfLast 35 = .ok (.ladd, 1) := by decide +kernel
set_option maxRecDepth 20000 in
theorem dX3_sumByRoundOfLast_36 : decode cX3_sumByRoundOfLast 36 = .ok (.lstore_n 3, 1) := by decide +kernel
set_option maxRecDepth 20000 in
theorem dX3_sumByRoundOfLast_37 : decode cX3_sumByRoundOfLast 37 = .ok (.lload 5, 2) := by decide +kernel
set_option maxRecDepth 20000 in
theorem dX3_sumByRoundOfLast_39 : decode cX3_sumByRoundOfLast 39 = .ok (.iload_n 2, 1) := by decide +kernel
set_option maxRecDepth 20000 in
theorem dX3_sumByRoundOfLast_40 : decode cX3_sumByRoundOfLast 40 = .ok (.iload 7, 2) := by decide +kernel
set_option maxRecDepth 20000 in
theorem dX3_sumByRoundOfLast_42 : decode cX3_sumByRoundOfLast 42 = .ok (.isub, 1) := by decide +kernel
set_option maxRecDepth 20000 in
theorem dX3_sumByRoundOfLast_43 : decode cX3_sumByRoundOfLast 43 = .ok (.i2l, 1) := by decide +kernel
set_option maxRecDepth 20000 in
theorem dX3_sumByRoundOfLast_44 : decode cX3_sumByRoundOfLast 44 = .ok (.lmul, 1) := by decide +kernel
set_option maxRecDepth 20000 in
theorem dX3_sumByRoundOfLast_45 : decode cX3_sumByRoundOfLast 45 = .ok (.lstore 5, 2) := by decide +kernel
set_option maxRecDepth 20000 in
theorem dX3_sumByRoundOfLast_47 : decode cX3_sumByRoundOfLast 47 = .ok (.iinc 7 1, 3) := by decide +kernel
set_option maxRecDepth 20000 in
theorem dX3_sumByRoundOfLast_50 : decode cX3_sumByRoundOfLast 50 = .ok (.goto (-42), 3) := by decide +kernel
set_option maxRecDepth 20000 in
theorem dX3_sumByRoundOfLast_53 : decode cX3_sumByRoundOfLast 53 = .ok (.lload_n 3, 1) := by decide +kernel
set_option maxRecDepth 20000 in
theorem dX3_sumByRoundOfLast_54 : decode cX3_sumByRoundOfLast 54 = .ok (.lreturn, 1) := by decide +kernel
set_option maxRecDepth 20000 in
theorem dX3_fillRises_0 : decode cX3_fillRises 0 = .ok (.aload_n 0, 1) := by decide +kernel
set_option maxRecDepth 20000 in
theorem dX3_fillRises_1 : decode cX3_fillRises 1 = .ok (.getfield 30, 3) := by decide +kernel
set_option maxRecDepth 20000 in
theorem dX3_fillRises_4 : decode cX3_fillRises 4 = .ok (.iconst 0, 1) := by decide +kernel
set_option maxRecDepth 20000 in
theorem dX3_fillRises_5 : decode cX3_fillRises 5 = .ok (.lconst 1, 1) := by decide +kernel
set_option maxRecDepth 20000 in
theorem dX3_fillRises_6 : decode cX3_fillRises 6 = .ok (.lastore, 1) := by decide +kernel
set_option maxRecDepth 20000 in
theorem dX3_fillRises_7 : decode cX3_fillRises 7 = .ok (.iconst 1, 1) := by decide +kernel
set_option maxRecDepth 20000 in
theorem dX3_fillRises_8 : decode cX3_fillRises 8 = .ok (.istore_n 1, 1) := by decide +kernel
set_option maxRecDepth 20000 in
theorem dX3_fillRises_9 : decode cX3_fillRises 9 = .ok (.iload_n 1, 1) := by decide +kernel
set_option maxRecDepth 20000 in
theorem dX3_fillRises_10 : decode cX3_fillRises 10 = .ok (.bipush 18, 2) := by decide +kernel
set_option maxRecDepth 20000 in
theorem dX3_fillRises_12 : decode cX3_fillRises 12 = .ok (.if_icmp .gt 28, 3) := by decide +kernel
set_option maxRecDepth 20000 in
theorem dX3_fillRises_15 : decode cX3_fillRises 15 = .ok (.iconst 0, 1) := by decide +kernel
set_option maxRecDepth 20000 in
theorem dX3_fillRises_16 : decode cX3_fillRises 16 = .ok (.istore_n 2, 1) := by decide +kernel
set_option maxRecDepth 20000 in
theorem dX3_fillRises_17 : decode cX3_fillRises 17 = .ok (.iload_n 2, 1) := by decide +kernel
set_option maxRecDepth 20000 in
theorem dX3_fillRises_18 : decode cX3_fillRises 18 = .ok (.iload_n 1, 1) := by decide +kernel
set_option maxRecDepth 20000 in
theorem dX3_fillRises_19 : decode cX3_fillRises 19 = .ok (.if_icmp .gt 15, 3) := by decide +kernel
set_option maxRecDepth 20000 in
theorem dX3_fillRises_22 : decode cX3_fillRises 22 = .ok (.aload_n 0, 1) := by decide +kernel
set_option maxRecDepth 20000 in
theorem dX3_fillRises_23 : decode cX3_fillRises 23 = .ok (.iload_n 1, 1) := by decide +kernel
set_option maxRecDepth 20000 in
theorem dX3_fillRises_24 : decode cX3_fillRises 24 = .ok (.iload_n 2, 1) := by decide +kernel
set_option maxRecDepth 20000 in
theorem dX3_fillRises_25 : decode cX3_fillRises 25 = .ok (.invokevirtual 52, 3) := by decide +kernel
set_option maxRecDepth 20000 in
theorem dX3_fillRises_28 : decode cX3_fillRises 28 = .ok (.iinc 2 1, 3) := by decide +kernel
set_option maxRecDepth 20000 in
theorem dX3_fillRises_31 : decode cX3_fillRises 31 = .ok (.goto (-14), 3) := by decide +kernel
set_option maxRecDepth 20000 in
theorem dX3_fillRises_34 : decode cX3_fillRises 34 = .ok (.iinc 1 1, 3) := by decide +kernel
set_option maxRecDepth 20000 in
theorem dX3_fillRises_37 : decode cX3_fillRises 37 = .ok (.goto (-28), 3) := by decide +kernel
set_option maxRecDepth 20000 in
theorem dX3_fillRises_40 : decode cX3_fillRises 40 = .ok (.return_, 1) := by decide +kernel
set_option maxRecDepth 20000 in
theorem dX3_fillRisesByBelow_0 : decode cX3_fillRisesByBelow 0 = .ok (.lconst 0, 1) := by decide +kernel
set_option maxRecDepth 20000 in
theorem dX3_fillRisesByBelow_1 : decode cX3_fillRisesByBelow 1 = .ok (.lstore_n 3, 1) := by decide +kernel
set_option maxRecDepth 20000 in
theorem dX3_fillRisesByBelow_2 : decode cX3_fillRisesByBelow 2 = .ok (.iconst 0, 1) := by decide +kernel
set_option maxRecDepth 20000 in
theorem dX3_fillRisesByBelow_3 : decode cX3_fillRisesByBelow 3 = .ok (.istore 5, 2) := by decide +kernel
set_option maxRecDepth 20000 in
theorem dX3_fillRisesByBelow_5 : decode cX3_fillRisesByBelow 5 = .ok (.iload 5, 2) := by decide +kernel
set_option maxRecDepth 20000 in
theorem dX3_fillRisesByBelow_7 : decode cX3_fillRisesByBelow 7 = .ok (.iload_n 1, 1) := by decide +kernel
set_option maxRecDepth 20000 in
theorem dX3_fillRisesByBelow_8 : decode cX3_fillRisesByBelow 8 = .ok (.if_icmp .ge 24, 3) := by decide +kernel
set_option maxRecDepth 20000 in
theorem dX3_fillRisesByBelow_11 : decode cX3_fillRisesByBelow 11 = .ok (.lload_n 3, 1) := by decide +kernel
set_option maxRecDepth 20000 in
theorem dX3_fillRisesByBelow_12 : decode cX3_fillRisesByBelow 12 = .ok (.aload_n 0, 1) := by decide +kernel
set_option maxRecDepth 20000 in
theorem dX3_fillRisesByBelow_13 : decode cX3_fillRisesByBelow 13 = .ok (.iload_n 1, 1) := by decide +kernel
set_option maxRecDepth 20000 in
theorem dX3_fillRisesByBelow_14 : decode cX3_fillRisesByBelow 14 = .ok (.iconst 1, 1) := by decide +kernel
set_option maxRecDepth 20000 in
theorem dX3_fillRisesByBelow_15 : decode cX3_fillRisesByBelow 15 = .ok (.isub, 1) := by decide +kernel
set_option maxRecDepth 20000 in
theorem dX3_fillRisesByBelow_16 : decode cX3_fillRisesByBelow 16 = .ok (.iload 5, 2) := by decide +kernel
set_option maxRecDepth 20000 in
theorem dX3_fillRisesByBelow_18 : decode cX3_fillRisesByBelow 18 = .ok (.iload_n 2, 1) := by decide +kernel
set_option maxRecDepth 20000 in
theorem dX3_fillRisesByBelow_19 : decode cX3_fillRisesByBelow 19 = .ok (.iconst 1, 1) := by decide +kernel
set_option maxRecDepth 20000 in
theorem dX3_fillRisesByBelow_20 : decode cX3_fillRisesByBelow 20 = .ok (.isub, 1) := by decide +kernel
set_option maxRecDepth 20000 in
theorem dX3_fillRisesByBelow_21 : decode cX3_fillRisesByBelow 21 = .ok (.invokevirtual 56, 3) := by decide +kernel
set_option maxRecDepth 20000 in
theorem dX3_fillRisesByBelow_24 : decode cX3_fillRisesByBelow 24 = .ok (.ladd, 1) := by decide +kernel
set_option maxRecDepth 20000 in
theorem dX3_fillRisesByBelow_25 : decode cX3_fillRisesByBelow 25 = .ok (.lstore_n 3, 1) := by decide +kernel
set_option maxRecDepth 20000 in
theorem dX3_fillRisesByBelow_26 : decode cX3_fillRisesByBelow 26 = .ok (.iinc 5 1, 3) := by decide +kernel
set_option maxRecDepth 20000 in
theorem dX3_fillRisesByBelow_29 : decode cX3_fillRisesByBelow 29 = .ok (.goto (-24), 3) := by decide +kernel
set_option maxRecDepth 20000 in
theorem dX3_fillRisesByBelow_32 : decode cX3_fillRisesByBelow 32 = .ok (.aload_n 0, 1) := by decide +kernel
set_option maxRecDepth 20000 in
theorem dX3_fillRisesByBelow_33 : decode cX3_fillRisesByBelow 33 = .ok (.getfield 30, 3) := by decide +kernel
set_option maxRecDepth 20000 in
theorem dX3_fillRisesByBelow_36 : decode cX3_fillRisesByBelow 36 = .ok (.iload_n 1, 1) := by decide +kernel
set_option maxRecDepth 20000 in
theorem dX3_fillRisesByBelow_37 : decode cX3_fillRisesByBelow 37 = .ok (.iconst 0, 1) := by decide +kernel
set_option maxRecDepth 20000 in
theorem dX3_fillRisesByBelow_38 : decode cX3_fillRisesByBelow 38 = .ok (.iload_n 2, 1) := by decide +kernel
set_option maxRecDepth 20000 in
theorem dX3_fillRisesByBelow_39 : decode cX3_fillRisesByBelow 39 = .ok (.invokestatic 26, 3) := by decide +kernel
set_option maxRecDepth 20000 in
theorem dX3_fillRisesByBelow_42 : decode cX3_fillRisesByBelow 42 = .ok (.lload_n 3, 1) := by decide +kernel
set_option maxRecDepth 20000 in
theorem dX3_fillRisesByBelow_43 : decode cX3_fillRisesByBelow 43 = .ok (.lastore, 1) := by decide +kernel
set_option maxRecDepth 20000 in
theorem dX3_fillRisesByBelow_44 : decode cX3_fillRisesByBelow 44 = .ok (.iconst 1, 1) := by decide +kernel
set_option maxRecDepth 20000 in
theorem dX3_fillRisesByBelow_45 : decode cX3_fillRisesByBelow 45 = .ok (.istore 5, 2) := by decide +kernel
set_option maxRecDepth 20000 in
theorem dX3_fillRisesByBelow_47 : decode cX3_fillRisesByBelow 47 = .ok (.iload 5, 2) := by decide +kernel
set_option maxRecDepth 20000 in
theorem dX3_fillRisesByBelow_49 : decode cX3_fillRisesByBelow 49 = .ok (.iload_n 1, 1) := by decide +kernel
set_option maxRecDepth 20000 in
theorem dX3_fillRisesByBelow_50 : decode cX3_fillRisesByBelow 50 = .ok (.if_icmp .gt 52, 3) := by decide +kernel
set_option maxRecDepth 20000 in
theorem dX3_fillRisesByBelow_53 : decode cX3_fillRisesByBelow 53 = .ok (.lload_n 3, 1) := by decide +kernel
set_option maxRecDepth 20000 in
theorem dX3_fillRisesByBelow_54 : decode cX3_fillRisesByBelow 54 = .ok (.aload_n 0, 1) := by decide +kernel
set_option maxRecDepth 20000 in
theorem dX3_fillRisesByBelow_55 : decode cX3_fillRisesByBelow 55 = .ok (.iload_n 1, 1) := by decide +kernel
set_option maxRecDepth 20000 in
theorem dX3_fillRisesByBelow_56 : decode cX3_fillRisesByBelow 56 = .ok (.iconst 1, 1) := by decide +kernel
set_option maxRecDepth 20000 in
theorem dX3_fillRisesByBelow_57 : decode cX3_fillRisesByBelow 57 = .ok (.isub, 1) := by decide +kernel
set_option maxRecDepth 20000 in
theorem dX3_fillRisesByBelow_58 : decode cX3_fillRisesByBelow 58 = .ok (.iload 5, 2) := by decide +kernel
set_option maxRecDepth 20000 in
theorem dX3_fillRisesByBelow_60 : decode cX3_fillRisesByBelow 60 = .ok (.iconst 1, 1) := by decide +kernel
set_option maxRecDepth 20000 in
theorem dX3_fillRisesByBelow_61 : decode cX3_fillRisesByBelow 61 = .ok (.isub, 1) := by decide +kernel
set_option maxRecDepth 20000 in
theorem dX3_fillRisesByBelow_62 : decode cX3_fillRisesByBelow 62 = .ok (.iload_n 2, 1) := by decide +kernel
set_option maxRecDepth 20000 in
theorem dX3_fillRisesByBelow_63 : decode cX3_fillRisesByBelow 63 = .ok (.invokevirtual 56, 3) := by decide +kernel
set_option maxRecDepth 20000 in
theorem dX3_fillRisesByBelow_66 : decode cX3_fillRisesByBelow 66 = .ok (.aload_n 0, 1) := by decide +kernel
set_option maxRecDepth 20000 in
theorem dX3_fillRisesByBelow_67 : decode cX3_fillRisesByBelow 67 = .ok (.iload_n 1, 1) := by decide +kernel
set_option maxRecDepth 20000 in
theorem dX3_fillRisesByBelow_68 : decode cX3_fillRisesByBelow 68 = .ok (.iconst 1, 1) := by decide +kernel
set_option maxRecDepth 20000 in
theorem dX3_fillRisesByBelow_69 : decode cX3_fillRisesByBelow 69 = .ok (.isub, 1) := by decide +kernel
set_option maxRecDepth 20000 in
theorem dX3_fillRisesByBelow_70 : decode cX3_fillRisesByBelow 70 = .ok (.iload 5, 2) := by decide +kernel
set_option maxRecDepth 20000 in
theorem dX3_fillRisesByBelow_72 : decode cX3_fillRisesByBelow 72 = .ok (.iconst 1, 1) := by decide +kernel
set_option maxRecDepth 20000 in
theorem dX3_fillRisesByBelow_73 : decode cX3_fillRisesByBelow 73 = .ok (.isub, 1) := by decide +kernel
set_option maxRecDepth 20000 in
theorem dX3_fillRisesByBelow_74 : decode cX3_fillRisesByBelow 74 = .ok (.iload_n 2, 1) := by decide +kernel
set_option maxRecDepth 20000 in
theorem dX3_fillRisesByBelow_75 : decode cX3_fillRisesByBelow 75 = .ok (.iconst 1, 1) := by decide +kernel
set_option maxRecDepth 20000 in
theorem dX3_fillRisesByBelow_76 : decode cX3_fillRisesByBelow 76 = .ok (.isub, 1) := by decide +kernel
set_option maxRecDepth 20000 in
theorem dX3_fillRisesByBelow_77 : decode cX3_fillRisesByBelow 77 = .ok (.invokevirtual 56, 3) := by decide +kernel
set_option maxRecDepth 20000 in
theorem dX3_fillRisesByBelow_80 : decode cX3_fillRisesByBelow 80 = .ok (.lsub, 1) := by decide +kernel
set_option maxRecDepth 20000 in
theorem dX3_fillRisesByBelow_81 : decode cX3_fillRisesByBelow 81 = .ok (.ladd, 1) := by decide +kernel
set_option maxRecDepth 20000 in
theorem dX3_fillRisesByBelow_82 : decode cX3_fillRisesByBelow 82 = .ok (.lstore_n 3, 1) := by decide +kernel
set_option maxRecDepth 20000 in
theorem dX3_fillRisesByBelow_83 : decode cX3_fillRisesByBelow 83 = .ok (.aload_n 0, 1) := by decide +kernel
set_option maxRecDepth 20000 in
theorem dX3_fillRisesByBelow_84 : decode cX3_fillRisesByBelow 84 = .ok (.getfield 30, 3) := by decide +kernel
set_option maxRecDepth 20000 in
theorem dX3_fillRisesByBelow_87 : decode cX3_fillRisesByBelow 87 = .ok (.iload_n 1, 1) := by decide +kernel
set_option maxRecDepth 20000 in
theorem dX3_fillRisesByBelow_88 : decode cX3_fillRisesByBelow 88 = .ok (.iload 5, 2) := by decide +kernel
set_option maxRecDepth 20000 in
theorem dX3_fillRisesByBelow_90 : decode cX3_fillRisesByBelow 90 = .ok (.iload_n 2, 1) := by decide +kernel
set_option maxRecDepth 20000 in
theorem dX3_fillRisesByBelow_91 : decode cX3_fillRisesByBelow 91 = .ok (.invokestatic 26, 3) := by decide +kernel
set_option maxRecDepth 20000 in
theorem dX3_fillRisesByBelow_94 : decode cX3_fillRisesByBelow 94 = .ok (.lload_n 3, 1) := by decide +kernel
set_option maxRecDepth 20000 in
theorem dX3_fillRisesByBelow_95 : decode cX3_fillRisesByBelow 95 = .ok (.lastore, 1) := by decide +kernel
set_option maxRecDepth 20000 in
theorem dX3_fillRisesByBelow_96 : decode cX3_fillRisesByBelow 96 = .ok (.iinc 5 1, 3) := by decide +kernel
set_option maxRecDepth 20000 in
theorem dX3_fillRisesByBelow_99 : decode cX3_fillRisesByBelow 99 = .ok (.goto (-52), 3) := by decide +kernel
set_option maxRecDepth 20000 in
theorem dX3_fillRisesByBelow_102 : decode cX3_fillRisesByBelow 102 = .ok (.return_, 1) := by decide +kernel
set_option maxRecDepth 20000 in
theorem dX3_riseSlot_0 : decode cX3_riseSlot 0 = .ok (.iload_n 0, 1) := by decide +kernel
set_option maxRecDepth 20000 in
theorem dX3_riseSlot_1 : decode cX3_riseSlot 1 = .ok (.iload_n 0, 1) := by decide +kernel
set_option maxRecDepth 20000 in
theorem dX3_riseSlot_2 : decode cX3_riseSlot 2 = .ok (.iconst 1, 1) := by decide +kernel
set_option maxRecDepth 20000 in
theorem dX3_riseSlot_3 : decode cX3_riseSlot 3 = .ok (.iadd, 1) := by decide +kernel
set_option maxRecDepth 20000 in
theorem dX3_riseSlot_4 : decode cX3_riseSlot 4 = .ok (.imul, 1) := by decide +kernel
set_option maxRecDepth 20000 in
theorem dX3_riseSlot_5 : decode cX3_riseSlot 5 = .ok (.iconst 2, 1) := by decide +kernel
set_option maxRecDepth 20000 in
theorem dX3_riseSlot_6 : decode cX3_riseSlot 6 = .ok (.iload_n 0, 1) := by decide +kernel
set_option maxRecDepth 20000 in
theorem dX3_riseSlot_7 : decode cX3_riseSlot 7 = .ok (.imul, 1) := by decide +kernel
set_option maxRecDepth 20000 in
theorem dX3_riseSlot_8 : decode cX3_riseSlot 8 = .ok (.iconst 1, 1) := by decide +kernel
set_option maxRecDepth 20000 in
theorem dX3_riseSlot_9 : decode cX3_riseSlot 9 = .ok (.iadd, 1) := by decide +kernel
set_option maxRecDepth 20000 in
theorem dX3_riseSlot_10 : decode cX3_riseSlot 10 = .ok (.imul, 1) := by decide +kernel
set_option maxRecDepth 20000 in
theorem dX3_riseSlot_11 : decode cX3_riseSlot 11 = .ok (.bipush 6, 2) := by decide +kernel
set_option maxRecDepth 20000 in
theorem dX3_riseSlot_13 : decode cX3_riseSlot 13 = .ok (.idiv, 1) := by decide +kernel
set_option maxRecDepth 20000 in
theorem dX3_riseSlot_14 : decode cX3_riseSlot 14 = .ok (.iload_n 1, 1) := by decide +kernel
set_option maxRecDepth 20000 in
theorem dX3_riseSlot_15 : decode cX3_riseSlot 15 = .ok (.iload_n 0, 1) := by decide +kernel
set_option maxRecDepth 20000 in
theorem dX3_riseSlot_16 : decode cX3_riseSlot 16 = .ok (.iconst 1, 1) := by decide +kernel
set_option maxRecDepth 20000 in
theorem dX3_riseSlot_17 : decode cX3_riseSlot 17 = .ok (.iadd, 1) := by decide +kernel
set_option maxRecDepth 20000 in
theorem dX3_riseSlot_18 : decode cX3_riseSlot 18 = .ok (.imul, 1) := by decide +kernel
set_option maxRecDepth 20000 in
theorem dX3_riseSlot_19 : decode cX3_riseSlot 19 = .ok (.iadd, 1) := by decide +kernel
set_option maxRecDepth 20000 in
theorem dX3_riseSlot_20 : decode cX3_riseSlot 20 = .ok (.iload_n 2, 1) := by decide +kernel
set_option maxRecDepth 20000 in
theorem dX3_riseSlot_21 : decode cX3_riseSlot 21 = .ok (.iadd, 1) := by decide +kernel
set_option maxRecDepth 20000 in
theorem dX3_riseSlot_22 : decode cX3_riseSlot 22 = .ok (.ireturn, 1) := by decide +kernel
set_option maxRecDepth 20000 in
theorem dX3_ordersOf_0 : decode cX3_ordersOf 0 = .ok (.aload_n 0, 1) := by decide +kernel
set_option maxRecDepth 20000 in
theorem dX3_ordersOf_1 : decode cX3_ordersOf 1 = .ok (.getfield 9, 3) := by decide +kernel
set_option maxRecDepth 20000 in
theorem dX3_ordersOf_4 : decode cX3_ordersOf 4 = .ok (.iload_n 1, 1) := by decide +kernel
set_option maxRecDepth 20000 in
theorem dX3_ordersOf_5 : decode cX3_ordersOf 5 = .ok (.invokestatic 60, 3) := by decide +kernel
set_option maxRecDepth 20000 in
theorem dX3_ordersOf_8 : decode cX3_ordersOf 8 = .ok (.lreturn, 1) := by decide +kernel
set_option maxRecDepth 20000 in
theorem dX3_withStill_0 : decode cX3_withStill 0 = .ok (.iload_n 2, 1) := by decide +kernel
set_option maxRecDepth 20000 in
theorem dX3_withStill_1 : decode cX3_withStill 1 = .ok (.ifCond .lt 8, 3) := by decide +kernel
set_option maxRecDepth 20000 in
theorem dX3_withStill_4 : decode cX3_withStill 4 = .ok (.iload_n 2, 1) := by decide +kernel
set_option maxRecDepth 20000 in
theorem dX3_withStill_5 : decode cX3_withStill 5 = .ok (.iload_n 1, 1) := by decide +kernel
set_option maxRecDepth 20000 in
theorem dX3_withStill_6 : decode cX3_withStill 6 = .ok (.if_icmp .le 5, 3) := by decide +kernel
set_option maxRecDepth 20000 in
theorem dX3_withStill_9 : decode cX3_withStill 9 = .ok (.lconst 0, 1) := by decide +kernel
set_option maxRecDepth 20000 in
theorem dX3_withStill_10 : decode cX3_withStill 10 = .ok (.lreturn, 1) := by decide +kernel
set_option maxRecDepth 20000 in
theorem dX3_withStill_11 : decode cX3_withStill 11 = .ok (.aload_n 0, 1) := by decide +kernel
set_option maxRecDepth 20000 in
theorem dX3_withStill_12 : decode cX3_withStill 12 = .ok (.getfield 15, 3) := by decide +kernel
set_option maxRecDepth 20000 in
theorem dX3_withStill_15 : decode cX3_withStill 15 = .ok (.iload_n 1, 1) := by decide +kernel
set_option maxRecDepth 20000 in
theorem dX3_withStill_16 : decode cX3_withStill 16 = .ok (.iload_n 2, 1) := by decide +kernel
set_option maxRecDepth 20000 in
theorem dX3_withStill_17 : decode cX3_withStill 17 = .ok (.isub, 1) := by decide +kernel
set_option maxRecDepth 20000 in
theorem dX3_withStill_18 : decode cX3_withStill 18 = .ok (.invokestatic 60, 3) := by decide +kernel
set_option maxRecDepth 20000 in
theorem dX3_withStill_21 : decode cX3_withStill 21 = .ok (.lstore_n 3, 1) := by decide +kernel
set_option maxRecDepth 20000 in
theorem dX3_withStill_22 : decode cX3_withStill 22 = .ok (.iconst 1, 1) := by decide +kernel
set_option maxRecDepth 20000 in
theorem dX3_withStill_23 : decode cX3_withStill 23 = .ok (.istore 5, 2) := by decide +kernel
set_option maxRecDepth 20000 in
theorem dX3_withStill_25 : decode cX3_withStill 25 = .ok (.iload 5, 2) := by decide +kernel
set_option maxRecDepth 20000 in
theorem dX3_withStill_27 : decode cX3_withStill 27 = .ok (.iload_n 2, 1) := by decide +kernel
set_option maxRecDepth 20000 in
theorem dX3_withStill_28 : decode cX3_withStill 28 = .ok (.if_icmp .gt 23, 3) := by decide +kernel
set_option maxRecDepth 20000 in
theorem dX3_withStill_31 : decode cX3_withStill 31 = .ok (.lload_n 3, 1) := by decide +kernel
set_option maxRecDepth 20000 in
theorem dX3_withStill_32 : decode cX3_withStill 32 = .ok (.iload_n 1, 1) := by decide +kernel
set_option maxRecDepth 20000 in
theorem dX3_withStill_33 : decode cX3_withStill 33 = .ok (.iload_n 2, 1) := by decide +kernel
set_option maxRecDepth 20000 in
theorem dX3_withStill_34 : decode cX3_withStill 34 = .ok (.isub, 1) := by decide +kernel
set_option maxRecDepth 20000 in
theorem dX3_withStill_35 : decode cX3_withStill 35 = .ok (.iload 5, 2) := by decide +kernel
set_option maxRecDepth 20000 in
theorem dX3_withStill_37 : decode cX3_withStill 37 = .ok (.iadd, 1) := by decide +kernel
set_option maxRecDepth 20000 in
theorem dX3_withStill_38 : decode cX3_withStill 38 = .ok (.i2l, 1) := by decide +kernel
set_option maxRecDepth 20000 in
theorem dX3_withStill_39 : decode cX3_withStill 39 = .ok (.lmul, 1) := by decide +kernel
set_option maxRecDepth 20000 in
theorem dX3_withStill_40 : decode cX3_withStill 40 = .ok (.iload 5, 2) := by decide +kernel
set_option maxRecDepth 20000 in
theorem dX3_withStill_42 : decode cX3_withStill 42 = .ok (.i2l, 1) := by decide +kernel
set_option maxRecDepth 20000 in
theorem dX3_withStill_43 : decode cX3_withStill 43 = .ok (.ldiv, 1) := by decide +kernel
set_option maxRecDepth 20000 in
theorem dX3_withStill_44 : decode cX3_withStill 44 = .ok (.lstore_n 3, 1) := by decide +kernel
set_option maxRecDepth 20000 in
theorem dX3_withStill_45 : decode cX3_withStill 45 = .ok (.iinc 5 1, 3) := by decide +kernel
set_option maxRecDepth 20000 in
theorem dX3_withStill_48 : decode cX3_withStill 48 = .ok (.goto (-23), 3) := by decide +kernel
set_option maxRecDepth 20000 in
theorem dX3_withStill_51 : decode cX3_withStill 51 = .ok (.lload_n 3, 1) := by decide +kernel
set_option maxRecDepth 20000 in
theorem dX3_withStill_52 : decode cX3_withStill 52 = .ok (.lreturn, 1) := by decide +kernel
set_option maxRecDepth 20000 in
theorem dX3_withRoundsUpTo_0 : decode cX3_withRoundsUpTo 0 = .ok (.iload_n 1, 1) := by decide +kernel
set_option maxRecDepth 20000 in
theorem dX3_withRoundsUpTo_1 : decode cX3_withRoundsUpTo 1 = .ok (.ifCond .lt 22, 3) := by decide +kernel
set_option maxRecDepth 20000 in
theorem dX3_withRoundsUpTo_4 : decode cX3_withRoundsUpTo 4 = .ok (.iload_n 1, 1) := by decide +kernel
set_option maxRecDepth 20000 in
theorem dX3_withRoundsUpTo_5 : decode cX3_withRoundsUpTo 5 = .ok (.bipush 18, 2) := by decide +kernel
set_option maxRecDepth 20000 in
theorem dX3_withRoundsUpTo_7 : decode cX3_withRoundsUpTo 7 = .ok (.if_icmp .gt 16, 3) := by decide +kernel
set_option maxRecDepth 20000 in
theorem dX3_withRoundsUpTo_10 : decode cX3_withRoundsUpTo 10 = .ok (.aload_n 0, 1) := by decide +kernel
set_option maxRecDepth 20000 in
theorem dX3_withRoundsUpTo_11 : decode cX3_withRoundsUpTo 11 = .ok (.getfield 23, 3) := by decide +kernel
set_option maxRecDepth 20000 in
theorem dX3_withRoundsUpTo_14 : decode cX3_withRoundsUpTo 14 = .ok (.iload_n 1, 1) := by decide +kernel
set_option maxRecDepth 20000 in
theorem dX3_withRoundsUpTo_15 : decode cX3_withRoundsUpTo 15 = .ok (.aaload, 1) := by decide +kernel
set_option maxRecDepth 20000 in
theorem dX3_withRoundsUpTo_16 : decode cX3_withRoundsUpTo 16 = .ok (.iload_n 2, 1) := by decide +kernel
set_option maxRecDepth 20000 in
theorem dX3_withRoundsUpTo_17 : decode cX3_withRoundsUpTo 17 = .ok (.invokestatic 60, 3) := by decide +kernel
set_option maxRecDepth 20000 in
theorem dX3_withRoundsUpTo_20 : decode cX3_withRoundsUpTo 20 = .ok (.goto 4, 3) := by decide +kernel
set_option maxRecDepth 20000 in
theorem dX3_withRoundsUpTo_23 : decode cX3_withRoundsUpTo 23 = .ok (.lconst 0, 1) := by decide +kernel
set_option maxRecDepth 20000 in
theorem dX3_withRoundsUpTo_24 : decode cX3_withRoundsUpTo 24 = .ok (.lreturn, 1) := by decide +kernel
set_option maxRecDepth 20000 in
theorem dX3_withRecords_0 : decode cX3_withRecords 0 = .ok (.iload_n 2, 1) := by decide +kernel
set_option maxRecDepth 20000 in
theorem dX3_withRecords_1 : decode cX3_withRecords 1 = .ok (.ifCond .lt 14, 3) := by decide +kernel
set_option maxRecDepth 20000 in
theorem dX3_withRecords_4 : decode cX3_withRecords 4 = .ok (.iload_n 2, 1) := by decide +kernel
set_option maxRecDepth 20000 in
theorem dX3_withRecords_5 : decode cX3_withRecords 5 = .ok (.iload_n 1, 1) := by decide +kernel
set_option maxRecDepth 20000 in
theorem dX3_withRecords_6 : decode cX3_withRecords 6 = .ok (.if_icmp .gt 9, 3) := by decide +kernel
set_option maxRecDepth 20000 in
theorem dX3_withRecords_9 : decode cX3_withRecords 9 = .ok (.iload_n 1, 1) := by decide +kernel
set_option maxRecDepth 20000 in
theorem dX3_withRecords_10 : decode cX3_withRecords 10 = .ok (.bipush 18, 2) := by decide +kernel
set_option maxRecDepth 20000 in
theorem dX3_withRecords_12 : decode cX3_withRecords 12 = .ok (.if_icmp .le 5, 3) := by decide +kernel
set_option maxRecDepth 20000 in
theorem dX3_withRecords_15 : decode cX3_withRecords 15 = .ok (.lconst 0, 1) := by decide +kernel
set_option maxRecDepth 20000 in
theorem dX3_withRecords_16 : decode cX3_withRecords 16 = .ok (.lreturn, 1) := by decide +kernel
set_option maxRecDepth 20000 in
theorem dX3_withRecords_17 : decode cX3_withRecords 17 = .ok (.aload_n 0, 1) := by decide +kernel
set_option maxRecDepth 20000 in
theorem dX3_withRecords_18 : decode cX3_withRecords 18 = .ok (.getfield 20, 3) := by decide +kernel
set_option maxRecDepth 20000 in
theorem dX3_withRecords_21 : decode cX3_withRecords 21 = .ok (.iload_n 2, 1) := by decide +kernel
set_option maxRecDepth 20000 in
theorem dX3_withRecords_22 : decode cX3_withRecords 22 = .ok (.aaload, 1) := by decide +kernel
set_option maxRecDepth 20000 in
theorem dX3_withRecords_23 : decode cX3_withRecords 23 = .ok (.iload_n 3, 1) := by decide +kernel
set_option maxRecDepth 20000 in
theorem dX3_withRecords_24 : decode cX3_withRecords 24 = .ok (.invokestatic 60, 3) := by decide +kernel
set_option maxRecDepth 20000 in
theorem dX3_withRecords_27 : decode cX3_withRecords 27 = .ok (.lstore 4, 2) := by decide +kernel
set_option maxRecDepth 20000 in
theorem dX3_withRecords_29 : decode cX3_withRecords 29 = .ok (.iload_n 2, 1) := by decide +kernel
set_option maxRecDepth 20000 in
theorem dX3_withRecords_30 : decode cX3_withRecords 30 = .ok (.iconst 1, 1) := by decide +kernel
set_option maxRecDepth 20000 in
theorem dX3_withRecords_31 : decode cX3_withRecords 31 = .ok (.iadd, 1) := by decide +kernel
set_option maxRecDepth 20000 in
theorem dX3_withRecords_32 : decode cX3_withRecords 32 = .ok (.istore 6, 2) := by decide +kernel
set_option maxRecDepth 20000 in
theorem dX3_withRecords_34 : decode cX3_withRecords 34 = .ok (.iload 6, 2) := by decide +kernel
set_option maxRecDepth 20000 in
theorem dX3_withRecords_36 : decode cX3_withRecords 36 = .ok (.iload_n 1, 1) := by decide +kernel
set_option maxRecDepth 20000 in
theorem dX3_withRecords_37 : decode cX3_withRecords 37 = .ok (.if_icmp .gt 17, 3) := by decide +kernel
set_option maxRecDepth 20000 in
theorem dX3_withRecords_40 : decode cX3_withRecords 40 = .ok (.lload 4, 2) := by decide +kernel
set_option maxRecDepth 20000 in
theorem dX3_withRecords_42 : decode cX3_withRecords 42 = .ok (.iload 6, 2) := by decide +kernel
set_option maxRecDepth 20000 in
theorem dX3_withRecords_44 : decode cX3_withRecords 44 = .ok (.i2l, 1) := by decide +kernel
set_option maxRecDepth 20000 in
theorem dX3_withRecords_45 : decode cX3_withRecords 45 = .ok (.lmul, 1) := by decide +kernel
set_option maxRecDepth 20000 in
theorem dX3_withRecords_46 : decode cX3_withRecords 46 = .ok (.lstore 4, 2) := by decide +kernel
set_option maxRecDepth 20000 in
theorem dX3_withRecords_48 : decode cX3_withRecords 48 = .ok (.iinc 6 1, 3) := by decide +kernel
set_option maxRecDepth 20000 in
theorem dX3_withRecords_51 : decode cX3_withRecords 51 = .ok (.goto (-17), 3) := by decide +kernel
set_option maxRecDepth 20000 in
theorem dX3_withRecords_54 : decode cX3_withRecords 54 = .ok (.lload 4, 2) := by decide +kernel
set_option maxRecDepth 20000 in
theorem dX3_withRecords_56 : decode cX3_withRecords 56 = .ok (.lreturn, 1) := by decide +kernel
set_option maxRecDepth 20000 in
theorem dX3_withRises_0 : decode cX3_withRises 0 = .ok (.iload_n 1, 1) := by decide +kernel
set_option maxRecDepth 20000 in
theorem dX3_withRises_1 : decode cX3_withRises 1 = .ok (.ifCond .lt 27, 3) := by decide +kernel
set_option maxRecDepth 20000 in
theorem dX3_withRises_4 : decode cX3_withRises 4 = .ok (.iload_n 1, 1) := by decide +kernel
set_option maxRecDepth 20000 in
theorem dX3_withRises_5 : decode cX3_withRises 5 = .ok (.bipush 18, 2) := by decide +kernel
set_option maxRecDepth 20000 in
theorem dX3_withRises_7 : decode cX3_withRises 7 = .ok (.if_icmp .gt 21, 3) := by decide +kernel
set_option maxRecDepth 20000 in
theorem dX3_withRises_10 : decode cX3_withRises 10 = .ok (.iload_n 2, 1) := by decide +kernel
set_option maxRecDepth 20000 in
theorem dX3_withRises_11 : decode cX3_withRises 11 = .ok (.ifCond .lt 17, 3) := by decide +kernel
set_option maxRecDepth 20000 in
theorem dX3_withRises_14 : decode cX3_withRises 14 = .ok (.iload_n 2, 1) := by decide +kernel
set_option maxRecDepth 20000 in
theorem dX3_withRises_15 : decode cX3_withRises 15 = .ok (.iload_n 1, 1) := by decide +kernel
set_option maxRecDepth 20000 in
theorem dX3_withRises_16 : decode cX3_withRises 16 = .ok (.if_icmp .gt 12, 3) := by decide +kernel
set_option maxRecDepth 20000 in
theorem dX3_withRises_19 : decode cX3_withRises 19 = .ok (.iload_n 3, 1) := by decide +kernel
set_option maxRecDepth 20000 in
theorem dX3_withRises_20 : decode cX3_withRises 20 = .ok (.ifCond .lt 8, 3) := by decide +kernel
set_option maxRecDepth 20000 in
theorem dX3_withRises_23 : decode cX3_withRises 23 = .ok (.iload_n 3, 1) := by decide +kernel
set_option maxRecDepth 20000 in
theorem dX3_withRises_24 : decode cX3_withRises 24 = .ok (.iload_n 1, 1) := by decide +kernel
set_option maxRecDepth 20000 in
theorem dX3_withRises_25 : decode cX3_withRises 25 = .ok (.if_icmp .le 5, 3) := by decide +kernel
set_option maxRecDepth 20000 in
theorem dX3_withRises_28 : decode cX3_withRises 28 = .ok (.lconst 0, 1) := by decide +kernel
set_option maxRecDepth 20000 in
theorem dX3_withRises_29 : decode cX3_withRises 29 = .ok (.lreturn, 1) := by decide +kernel
set_option maxRecDepth 20000 in
theorem dX3_withRises_30 : decode cX3_withRises 30 = .ok (.aload_n 0, 1) := by decide +kernel
set_option maxRecDepth 20000 in
theorem dX3_withRises_31 : decode cX3_withRises 31 = .ok (.getfield 30, 3) := by decide +kernel
set_option maxRecDepth 20000 in
theorem dX3_withRises_34 : decode cX3_withRises 34 = .ok (.iload_n 1, 1) := by decide +kernel
set_option maxRecDepth 20000 in
theorem dX3_withRises_35 : decode cX3_withRises 35 = .ok (.iload_n 2, 1) := by decide +kernel
set_option maxRecDepth 20000 in
theorem dX3_withRises_36 : decode cX3_withRises 36 = .ok (.iload_n 3, 1) := by decide +kernel
set_option maxRecDepth 20000 in
theorem dX3_withRises_37 : decode cX3_withRises 37 = .ok (.invokestatic 26, 3) := by decide +kernel
set_option maxRecDepth 20000 in
theorem dX3_withRises_40 : decode cX3_withRises 40 = .ok (.invokestatic 60, 3) := by decide +kernel
set_option maxRecDepth 20000 in
theorem dX3_withRises_43 : decode cX3_withRises 43 = .ok (.lreturn, 1) := by decide +kernel
set_option maxRecDepth 20000 in
theorem dX4_init_0 : decode cX4_init 0 = .ok (.aload_n 0, 1) := by decide +kernel
set_option maxRecDepth 20000 in
theorem dX4_init_1 : decode cX4_init 1 = .ok (.invokespecial 3, 3) := by decide +kernel
set_option maxRecDepth 20000 in
theorem dX4_init_4 : decode cX4_init 4 = .ok (.aload_n 0, 1) := by decide +kernel
set_option maxRecDepth 20000 in
theorem dX4_init_5 : decode cX4_init 5 = .ok (.iload_n 2, 1) := by decide +kernel
set_option maxRecDepth 20000 in
theorem dX4_init_6 : decode cX4_init 6 = .ok (.putfield 9, 3) := by decide +kernel
set_option maxRecDepth 20000 in
theorem dX4_init_9 : decode cX4_init 9 = .ok (.aload_n 0, 1) := by decide +kernel
set_option maxRecDepth 20000 in
theorem dX4_init_10 : decode cX4_init 10 = .ok (.aload_n 3, 1) := by decide +kernel
set_option maxRecDepth 20000 in
theorem dX4_init_11 : decode cX4_init 11 = .ok (.putfield 15, 3) := by decide +kernel
set_option maxRecDepth 20000 in
theorem dX4_init_14 : decode cX4_init 14 = .ok (.aload_n 0, 1) := by decide +kernel
set_option maxRecDepth 20000 in
theorem dX4_init_15 : decode cX4_init 15 = .ok (.iload_n 1, 1) := by decide +kernel
set_option maxRecDepth 20000 in
theorem dX4_init_16 : decode cX4_init 16 = .ok (.iload_n 2, 1) := by decide +kernel
set_option maxRecDepth 20000 in
theorem dX4_init_17 : decode cX4_init 17 = .ok (.invokestatic 19, 3) := by decide +kernel
set_option maxRecDepth 20000 in
theorem dX4_init_20 : decode cX4_init 20 = .ok (.iconst 1, 1) := by decide +kernel
set_option maxRecDepth 20000 in
theorem dX4_init_21 : decode cX4_init 21 = .ok (.iadd, 1) := by decide +kernel
set_option maxRecDepth 20000 in
theorem dX4_init_22 : decode cX4_init 22 = .ok (.newarray .long, 2) := by decide +kernel
set_option maxRecDepth 20000 in
theorem dX4_init_24 : decode cX4_init 24 = .ok (.putfield 23, 3) := by decide +kernel
set_option maxRecDepth 20000 in
theorem dX4_init_27 : decode cX4_init 27 = .ok (.iload_n 1, 1) := by decide +kernel
set_option maxRecDepth 20000 in
theorem dX4_init_28 : decode cX4_init 28 = .ok (.iconst 5, 1) := by decide +kernel
set_option maxRecDepth 20000 in
theorem dX4_init_29 : decode cX4_init 29 = .ok (.if_icmp .ne 10, 3) := by decide +kernel
set_option maxRecDepth 20000 in
theorem dX4_init_32 : decode cX4_init 32 = .ok (.aload_n 0, 1) := by decide +kernel
set_option maxRecDepth 20000 in
theorem dX4_init_33 : decode cX4_init 33 = .ok (.invokevirtual 27, 3) := by decide +kernel
set_option maxRecDepth 20000 in
theorem dX4_init_36 : decode cX4_init 36 = .ok (.goto 28, 3) := by decide +kernel
set_option maxRecDepth 20000 in
theorem dX4_init_39 : decode cX4_init 39 = .ok (.iload_n 1, 1) := by decide +kernel
set_option maxRecDepth 20000 in
theorem dX4_init_40 : decode cX4_init 40 = .ok (.bipush 6, 2) := by decide +kernel
set_option maxRecDepth 20000 in
theorem dX4_init_42 : decode cX4_init 42 = .ok (.if_icmp .eq 9, 3) := by decide +kernel
set_option maxRecDepth 20000 in
theorem dX4_init_45 : decode cX4_init 45 = .ok (.iload_n 1, 1) := by decide +kernel
set_option maxRecDepth 20000 in
theorem dX4_init_46 : decode cX4_init 46 = .ok (.bipush 7, 2) := by decide +kernel
set_option maxRecDepth 20000 in
theorem dX4_init_48 : decode cX4_init 48 = .ok (.if_icmp .ne 11, 3) := by decide +kernel
set_option maxRecDepth 20000 in
theorem dX4_init_51 : decode cX4_init 51 = .ok (.aload_n 0, 1) := by decide +kernel
set_option maxRecDepth 20000 in
theorem dX4_init_52 : decode cX4_init 52 = .ok (.iload_n 1, 1) := by decide +kernel
set_option maxRecDepth 20000 in
theorem dX4_init_53 : decode cX4_init 53 = .ok (.invokevirtual 30, 3) := by decide +kernel
set_option maxRecDepth 20000 in
theorem dX4_init_56 : decode cX4_init 56 = .ok (.goto 8, 3) := by decide +kernel
set_option maxRecDepth 20000 in
theorem dX4_init_59 : decode cX4_init 59 = .ok (.aload_n 0, 1) := by decide +kernel
set_option maxRecDepth 20000 in
theorem dX4_init_60 : decode cX4_init 60 = .ok (.iload_n 1, 1) := by decide +kernel
set_option maxRecDepth 20000 in
theorem dX4_init_61 : decode cX4_init 61 = .ok (.invokevirtual 34, 3) := by decide +kernel
set_option maxRecDepth 20000 in
theorem dX4_init_64 : decode cX4_init 64 = .ok (.return_, 1) := by decide +kernel
set_option maxRecDepth 20000 in
theorem dX4_greatest_0 : decode cX4_greatest 0 = .ok (.iload_n 0, 1) := by decide +kernel
set_option maxRecDepth 20000 in
theorem dX4_greatest_1 : decode cX4_greatest 1 = .ok (.lookupswitch 43 #[(5, 27), (7, 39)], 27) := by decide +kernel
set_option maxRecDepth 20000 in
theorem dX4_greatest_28 : decode cX4_greatest 28 = .ok (.iconst 0, 1) := by decide +kernel
set_option maxRecDepth 20000 in
theorem dX4_greatest_29 : decode cX4_greatest 29 = .ok (.iload_n 1, 1) := by decide +kernel
set_option maxRecDepth 20000 in
theorem dX4_greatest_30 : decode cX4_greatest 30 = .ok (.iload_n 1, 1) := by decide +kernel
set_option maxRecDepth 20000 in
theorem dX4_greatest_31 : decode cX4_greatest 31 = .ok (.iconst 1, 1) := by decide +kernel
set_option maxRecDepth 20000 in
theorem dX4_greatest_32 : decode cX4_greatest 32 = .ok (.isub, 1) := by decide +kernel
set_option maxRecDepth 20000 in
theorem dX4_greatest_33 : decode cX4_greatest 33 = .ok (.imul, 1) := by decide +kernel
set_option maxRecDepth 20000 in
theorem dX4_greatest_34 : decode cX4_greatest 34 = .ok (.iconst 2, 1) := by decide +kernel
set_option maxRecDepth 20000 in
theorem dX4_greatest_35 : decode cX4_greatest 35 = .ok (.idiv, 1) := by decide +kernel
set_option maxRecDepth 20000 in
theorem dX4_greatest_36 : decode cX4_greatest 36 = .ok (.invokestatic 37, 3) := by decide +kernel
set_option maxRecDepth 20000 in
theorem dX4_greatest_39 : decode cX4_greatest 39 = .ok (.ireturn, 1) := by decide +kernel
set_option maxRecDepth 20000 in
theorem dX4_greatest_40 : decode cX4_greatest 40 = .ok (.sipush 210, 3) := by decide +kernel
set_option maxRecDepth 20000 in
theorem dX4_greatest_43 : decode cX4_greatest 43 = .ok (.ireturn, 1) := by decide +kernel
set_option maxRecDepth 20000 in
theorem dX4_greatest_44 : decode cX4_greatest 44 = .ok (.iconst 0, 1) := by decide +kernel
set_option maxRecDepth 20000 in
theorem dX4_greatest_45 : decode cX4_greatest 45 = .ok (.iload_n 1, 1) := by decide +kernel
set_option maxRecDepth 20000 in
theorem dX4_greatest_46 : decode cX4_greatest 46 = .ok (.invokestatic 37, 3) := by decide +kernel
set_option maxRecDepth 20000 in
theorem dX4_greatest_49 : decode cX4_greatest 49 = .ok (.ireturn, 1) := by decide +kernel
set_option maxRecDepth 20000 in
theorem dX4_fillByTables_0 : decode cX4_fillByTables 0 = .ok (.iconst 0, 1) := by decide +kernel
set_option maxRecDepth 20000 in
theorem dX4_fillByTables_1 : decode cX4_fillByTables 1 = .ok (.istore_n 2, 1) := by decide +kernel
set_option maxRecDepth 20000 in
theorem dX4_fillByTables_2 : decode cX4_fillByTables 2 = .ok (.iload_n 2, 1) := by decide +kernel
set_option maxRecDepth 20000 in
theorem dX4_fillByTables_3 : decode cX4_fillByTables 3 = .ok (.aload_n 0, 1) := by decide +kernel
set_option maxRecDepth 20000 in
theorem dX4_fillByTables_4 : decode cX4_fillByTables 4 = .ok (.getfield 23, 3) := by decide +kernel
set_option maxRecDepth 20000 in
theorem dX4_fillByTables_7 : decode cX4_fillByTables 7 = .ok (.arraylength, 1) := by decide +kernel
set_option maxRecDepth 20000 in
theorem dX4_fillByTables_8 : decode cX4_fillByTables 8 = .ok (.if_icmp .ge 21, 3) := by decide +kernel
set_option maxRecDepth 20000 in
theorem dX4_fillByTables_11 : decode cX4_fillByTables 11 = .ok (.aload_n 0, 1) := by decide +kernel
set_option maxRecDepth 20000 in
theorem dX4_fillByTables_12 : decode cX4_fillByTables 12 = .ok (.getfield 23, 3) := by decide +kernel
set_option maxRecDepth 20000 in
theorem dX4_fillByTables_15 : decode cX4_fillByTables 15 = .ok (.iload_n 2, 1) := by decide +kernel
set_option maxRecDepth 20000 in
theorem dX4_fillByTables_16 : decode cX4_fillByTables 16 = .ok (.aload_n 0, 1) := by decide +kernel
set_option maxRecDepth 20000 in
theorem dX4_fillByTables_17 : decode cX4_fillByTables 17 = .ok (.iload_n 1, 1) := by decide +kernel
set_option maxRecDepth 20000 in
theorem dX4_fillByTables_18 : decode cX4_fillByTables 18 = .ok (.iload_n 2, 1) := by decide +kernel
set_option maxRecDepth 20000 in
theorem dX4_fillByTables_19 : decode cX4_fillByTables 19 = .ok (.invokevirtual 42, 3) := by decide +kernel
set_option maxRecDepth 20000 in
theorem dX4_fillByTables_22 : decode cX4_fillByTables 22 = .ok (.lastore, 1) := by decide +kernel
set_option maxRecDepth 20000 in
theorem dX4_fillByTables_23 : decode cX4_fillByTables 23 = .ok (.iinc 2 1, 3) := by decide +kernel
set_option maxRecDepth 20000 in
theorem dX4_fillByTables_26 : decode cX4_fillByTables 26 = .ok (.goto (-24), 3) := by decide +kernel
set_option maxRecDepth 20000 in
theorem dX4_fillByTables_29 : decode cX4_fillByTables 29 = .ok (.return_, 1) := by decide +kernel
set_option maxRecDepth 20000 in
theorem dX4_fromTables_0 : decode cX4_fromTables 0 = .ok (.iload_n 1, 1) := by decide +kernel
set_option maxRecDepth 20000 in
theorem dX4_fromTables_1 : decode cX4_fromTables 1 = .ok (.tableswitch 110 0 4 #[35, 35, 52, 69, 82], 35) := by decide +kernel
set_option maxRecDepth 20000 in
theorem dX4_fromTables_36 : decode cX4_fromTables 36 = .ok (.aload_n 0, 1) := by decide +kernel
set_option maxRecDepth 20000 in
theorem dX4_fromTables_37 : decode cX4_fromTables 37 = .ok (.getfield 15, 3) := by decide +kernel
set_option maxRecDepth 20000 in
theorem dX4_fromTables_40 : decode cX4_fromTables 40 = .ok (.aload_n 0, 1) := by decide +kernel
set_option maxRecDepth 20000 in
theorem dX4_fromTables_41 : decode cX4_fromTables 41 = .ok (.getfield 9, 3) := by decide +kernel
set_option maxRecDepth 20000 in
theorem dX4_fromTables_44 : decode cX4_fromTables 44 = .ok (.aload_n 0, 1) := by decide +kernel
set_option maxRecDepth 20000 in
theorem dX4_fromTables_45 : decode cX4_fromTables 45 = .ok (.getfield 9, 3) := by decide +kernel
set_option maxRecDepth 20000 in
theorem dX4_fromTables_48 : decode cX4_fromTables 48 = .ok (.iload_n 2, 1) := by decide +kernel
set_option maxRecDepth 20000 in
theorem dX4_fromTables_49 : decode cX4_fromTables 49 = .ok (.invokevirtual 46, 3) := by decide +kernel
set_option maxRecDepth 20000 in
theorem dX4_fromTables_52 : decode cX4_fromTables 52 = .ok (.lreturn, 1) := by decide +kernel
set_option maxRecDepth 20000 in
theorem dX4_fromTables_53 : decode cX4_fromTables 53 = .ok (.aload_n 0, 1) := by decide +kernel
set_option maxRecDepth 20000 in
theorem dX4_fromTables_54 : decode cX4_fromTables 54 = .ok (.getfield 15, 3) := by decide +kernel
set_option maxRecDepth 20000 in
theorem dX4_fromTables_57 : decode cX4_fromTables 57 = .ok (.aload_n 0, 1) := by decide +kernel
set_option maxRecDepth 20000 in
theorem dX4_fromTables_58 : decode cX4_fromTables 58 = .ok (.getfield 9, 3) := by decide +kernel
set_option maxRecDepth 20000 in
theorem dX4_fromTables_61 : decode cX4_fromTables 61 = .ok (.aload_n 0, 1) := by decide +kernel
set_option maxRecDepth 20000 in
theorem dX4_fromTables_62 : decode cX4_fromTables 62 = .ok (.getfield 9, 3) := by decide +kernel
set_option maxRecDepth 20000 in
theorem dX4_fromTables_65 : decode cX4_fromTables 65 = .ok (.iload_n 2, 1) := by decide +kernel
set_option maxRecDepth 20000 in
theorem dX4_fromTables_66 : decode cX4_fromTables 66 = .ok (.invokevirtual 52, 3) := by decide +kernel
set_option maxRecDepth 20000 in
theorem dX4_fromTables_69 : decode cX4_fromTables 69 = .ok (.lreturn, 1) := by decide +kernel
set_option maxRecDepth 20000 in
theorem dX4_fromTables_70 : decode cX4_fromTables 70 = .ok (.aload_n 0, 1) := by decide +kernel
set_option maxRecDepth 20000 in
theorem dX4_fromTables_71 : decode cX4_fromTables 71 = .ok (.getfield 15, 3) := by decide +kernel
set_option maxRecDepth 20000 in
theorem dX4_fromTables_74 : decode cX4_fromTables 74 = .ok (.aload_n 0, 1) := by decide +kernel
set_option maxRecDepth 20000 in
theorem dX4_fromTables_75 : decode cX4_fromTables 75 = .ok (.getfield 9, 3) := by decide +kernel
set_option maxRecDepth 20000 in
theorem dX4_fromTables_78 : decode cX4_fromTables 78 = .ok (.iload_n 2, 1) := by decide +kernel
set_option maxRecDepth 20000 in
theorem dX4_fromTables_79 : decode cX4_fromTables 79 = .ok (.invokevirtual 55, 3) := by decide +kernel
set_option maxRecDepth 20000 in
theorem dX4_fromTables_82 : decode cX4_fromTables 82 = .ok (.lreturn, 1) := by decide +kernel
set_option maxRecDepth 20000 in
theorem dX4_fromTables_83 : decode cX4_fromTables 83 = .ok (.aload_n 0, 1) := by decide +kernel
set_option maxRecDepth 20000 in
theorem dX4_fromTables_84 : decode cX4_fromTables 84 = .ok (.getfield 15, 3) := by decide +kernel
set_option maxRecDepth 20000 in
theorem dX4_fromTables_87 : decode cX4_fromTables 87 = .ok (.iload_n 2, 1) := by decide +kernel
set_option maxRecDepth 20000 in
theorem dX4_fromTables_88 : decode cX4_fromTables 88 = .ok (.aload_n 0, 1) := by decide +kernel
set_option maxRecDepth 20000 in
theorem dX4_fromTables_89 : decode cX4_fromTables 89 = .ok (.getfield 9, 3) := by decide +kernel
set_option maxRecDepth 20000 in
theorem dX4_fromTables_92 : decode cX4_fromTables 92 = .ok (.invokevirtual 58, 3) := by decide +kernel
set_option maxRecDepth 20000 in
theorem dX4_fromTables_95 : decode cX4_fromTables 95 = .ok (.aload_n 0, 1) := by decide +kernel
set_option maxRecDepth 20000 in
theorem dX4_fromTables_96 : decode cX4_fromTables 96 = .ok (.getfield 15, 3) := by decide +kernel
set_option maxRecDepth 20000 in
theorem dX4_fromTables_99 : decode cX4_fromTables 99 = .ok (.iload_n 2, 1) := by decide +kernel
set_option maxRecDepth 20000 in
theorem dX4_fromTables_100 : decode cX4_fromTables 100 = .ok (.iconst 1, 1) := by decide +kernel
set_option maxRecDepth 20000 in
theorem dX4_fromTables_101 : decode cX4_fromTables 101 = .ok (.isub, 1) := by decide +kernel
set_option maxRecDepth 20000 in
theorem dX4_fromTables_102 : decode cX4_fromTables 102 = .ok (.aload_n 0, 1) := by decide +kernel
set_option maxRecDepth 20000 in
theorem dX4_fromTables_103 : decode cX4_fromTables 103 = .ok (.getfield 9, 3) := by decide +kernel
set_option maxRecDepth 20000 in
theorem dX4_fromTables_106 : decode cX4_fromTables 106 = .ok (.invokevirtual 58, 3) := by decide +kernel
set_option maxRecDepth 20000 in
theorem dX4_fromTables_109 : decode cX4_fromTables 109 = .ok (.lsub, 1) := by decide +kernel
set_option maxRecDepth 20000 in
theorem dX4_fromTables_110 : decode cX4_fromTables 110 = .ok (.lreturn, 1) := by decide +kernel
set_option maxRecDepth 20000 in
theorem dX4_fromTables_111 : decode cX4_fromTables 111 = .ok (.lconst 0, 1) := by decide +kernel
set_option maxRecDepth 20000 in
theorem dX4_fromTables_112 : decode cX4_fromTables 112 = .ok (.lreturn, 1) := by decide +kernel
set_option maxRecDepth 20000 in
theorem dX4_fillPairsOut_0 : decode cX4_fillPairsOut 0 = .ok (.aload_n 0, 1) := by decide +kernel
set_option maxRecDepth 20000 in
theorem dX4_fillPairsOut_1 : decode cX4_fillPairsOut 1 = .ok (.getfield 23, 3) := by decide +kernel
set_option maxRecDepth 20000 in
theorem dX4_fillPairsOut_4 : decode cX4_fillPairsOut 4 = .ok (.iconst 0, 1) := by decide +kernel
set_option maxRecDepth 20000 in
theorem dX4_fillPairsOut_5 : decode cX4_fillPairsOut 5 = .ok (.lconst 1, 1) := by decide +kernel
set_option maxRecDepth 20000 in
theorem dX4_fillPairsOut_6 : decode cX4_fillPairsOut 6 = .ok (.lastore, 1) := by decide +kernel
set_option maxRecDepth 20000 in
theorem dX4_fillPairsOut_7 : decode cX4_fillPairsOut 7 = .ok (.iconst 2, 1) := by decide +kernel
set_option maxRecDepth 20000 in
theorem dX4_fillPairsOut_8 : decode cX4_fillPairsOut 8 = .ok (.istore_n 1, 1) := by decide +kernel
set_option maxRecDepth 20000 in
theorem dX4_fillPairsOut_9 : decode cX4_fillPairsOut 9 = .ok (.iload_n 1, 1) := by decide +kernel
set_option maxRecDepth 20000 in
theorem dX4_fillPairsOut_10 : decode cX4_fillPairsOut 10 = .ok (.aload_n 0, 1) := by decide +kernel
set_option maxRecDepth 20000 in
theorem dX4_fillPairsOut_11 : decode cX4_fillPairsOut 11 = .ok (.getfield 9, 3) := by decide +kernel
set_option maxRecDepth 20000 in
theorem dX4_fillPairsOut_14 : decode cX4_fillPairsOut 14 = .ok (.if_icmp .gt 63, 3) := by decide +kernel
set_option maxRecDepth 20000 in
theorem dX4_fillPairsOut_17 : decode cX4_fillPairsOut 17 = .ok (.aload_n 0, 1) := by decide +kernel
set_option maxRecDepth 20000 in
theorem dX4_fillPairsOut_18 : decode cX4_fillPairsOut 18 = .ok (.getfield 23, 3) := by decide +kernel
set_option maxRecDepth 20000 in
theorem dX4_fillPairsOut_21 : decode cX4_fillPairsOut 21 = .ok (.arraylength, 1) := by decide +kernel
set_option maxRecDepth 20000 in
theorem dX4_fillPairsOut_22 : decode cX4_fillPairsOut 22 = .ok (.iconst 1, 1) := by decide +kernel
set_option maxRecDepth 20000 in
theorem dX4_fillPairsOut_23 : decode cX4_fillPairsOut 23 = .ok (.isub, 1) := by decide +kernel
set_option maxRecDepth 20000 in
theorem dX4_fillPairsOut_24 : decode cX4_fillPairsOut 24 = .ok (.istore_n 2, 1) := by decide +kernel
set_option maxRecDepth 20000 in
theorem dX4_fillPairsOut_25 : decode cX4_fillPairsOut 25 = .ok (.iload_n 2, 1) := by decide +kernel
set_option maxRecDepth 20000 in
theorem dX4_fillPairsOut_26 : decode cX4_fillPairsOut 26 = .ok (.ifCond .le 45, 3) := by decide +kernel
set_option maxRecDepth 20000 in
theorem dX4_fillPairsOut_29 : decode cX4_fillPairsOut 29 = .ok (.iconst 0, 1) := by decide +kernel
set_option maxRecDepth 20000 in
theorem dX4_fillPairsOut_30 : decode cX4_fillPairsOut 30 = .ok (.iload_n 2, 1) := by decide +kernel
set_option maxRecDepth 20000 in
theorem dX4_fillPairsOut_31 : decode cX4_fillPairsOut 31 = .ok (.iload_n 1, 1) := by decide +kernel
set_option maxRecDepth 20000 in
theorem dX4_fillPairsOut_32 : decode cX4_fillPairsOut 32 = .ok (.isub, 1) := by decide +kernel
set_option maxRecDepth 20000 in
theorem dX4_fillPairsOut_33 : decode cX4_fillPairsOut 33 = .ok (.iconst 1, 1) := by decide +kernel
set_option maxRecDepth 20000 in
theorem dX4_fillPairsOut_34 : decode cX4_fillPairsOut 34 = .ok (.iadd, 1) := by decide +kernel
set_option maxRecDepth 20000 in
theorem dX4_fillPairsOut_35 : decode cX4_fillPairsOut 35 = .ok (.invokestatic 37, 3) := by decide +kernel
set_option maxRecDepth 20000 in
theorem dX4_fillPairsOut_38 : decode cX4_fillPairsOut 38 = .ok (.istore_n 3, 1) := by decide +kernel
set_option maxRecDepth 20000 in
theorem dX4_fillPairsOut_39 : decode cX4_fillPairsOut 39 = .ok (.iload_n 3, 1) := by decide +kernel
set_option maxRecDepth 20000 in
theorem dX4_fillPairsOut_40 : decode cX4_fillPairsOut 40 = .ok (.iload_n 2, 1) := by decide +kernel
set_option maxRecDepth 20000 in
theorem dX4_fillPairsOut_41 : decode cX4_fillPairsOut 41 = .ok (.if_icmp .ge 24, 3) := by decide +kernel
set_option maxRecDepth 20000 in
theorem dX4_fillPairsOut_44 : decode cX4_fillPairsOut 44 = .ok (.aload_n 0, 1) := by decide +kernel
set_option maxRecDepth 20000 in
theorem dX4_fillPairsOut_45 : decode cX4_fillPairsOut 45 = .ok (.getfield 23, 3) := by decide +kernel
set_option maxRecDepth 20000 in
theorem dX4_fillPairsOut_48 : decode cX4_fillPairsOut 48 = .ok (.iload_n 2, 1) := by decide +kernel
set_option maxRecDepth 20000 in
theorem dX4_fillPairsOut_49 : decode cX4_fillPairsOut 49 = .ok (.dup2, 1) := by decide +kernel
set_option maxRecDepth 20000 in
theorem dX4_fillPairsOut_50 : decode cX4_fillPairsOut 50 = .ok (.laload, 1) := by decide +kernel
set_option maxRecDepth 20000 in
theorem dX4_fillPairsOut_51 : decode cX4_fillPairsOut 51 = .ok (.aload_n 0, 1) := by decide +kernel
set_option maxRecDepth 20000 in
theorem dX4_fillPairsOut_52 : decode cX4_fillPairsOut 52 = .ok (.getfield 23, 3) := by decide +kernel
set_option maxRecDepth 20000 in
theorem dX4_fillPairsOut_55 : decode cX4_fillPairsOut 55 = .ok (.iload_n 3, 1) := by decide +kernel
set_option maxRecDepth 20000 in
theorem dX4_fillPairsOut_56 : decode cX4_fillPairsOut 56 = .ok (.laload, 1) := by decide +kernel
set_option maxRecDepth 20000 in
theorem dX4_fillPairsOut_57 : decode cX4_fillPairsOut 57 = .ok (.ladd, 1) := by decide +kernel
set_option maxRecDepth 20000 in
theorem dX4_fillPairsOut_58 : decode cX4_fillPairsOut 58 = .ok (.lastore, 1) := by decide +kernel
set_option maxRecDepth 20000 in
theorem dX4_fillPairsOut_59 : decode cX4_fillPairsOut 59 = .ok (.iinc 3 1, 3) := by decide +kernel
set_option maxRecDepth 20000 in
theorem dX4_fillPairsOut_62 : decode cX4_fillPairsOut 62 = .ok (.goto (-23), 3) := by decide +kernel
set_option maxRecDepth 20000 in
theorem dX4_fillPairsOut_65 : decode cX4_fillPairsOut 65 = .ok (.iinc 2 (-1), 3) := by decide +kernel
set_option maxRecDepth 20000 in
theorem dX4_fillPairsOut_68 : decode cX4_fillPairsOut 68 = .ok (.goto (-43), 3) := by decide +kernel
set_option maxRecDepth 20000 in
theorem dX4_fillPairsOut_71 : decode cX4_fillPairsOut 71 = .ok (.iinc 1 1, 3) := by decide +kernel
set_option maxRecDepth 20000 in
theorem dX4_fillPairsOut_74 : decode cX4_fillPairsOut 74 = .ok (.goto (-65), 3) := by decide +kernel
set_option maxRecDepth 20000 in
theorem dX4_fillPairsOut_77 : decode cX4_fillPairsOut 77 = .ok (.return_, 1) := by decide +kernel
set_option maxRecDepth 20000 in
theorem dX4_fillByPartitions_0 : decode cX4_fillByPartitions 0 = .ok (.new 61, 3) := by decide +kernel
set_option maxRecDepth 20000 in
theorem dX4_fillByPartitions_3 : decode cX4_fillByPartitions 3 = .ok (.dup, 1) := by decide +kernel
set_option maxRecDepth 20000 in
theorem dX4_fillByPartitions_4 : decode cX4_fillByPartitions 4 = .ok (.aload_n 0, 1) := by decide +kernel
set_option maxRecDepth 20000 in
theorem dX4_fillByPartitions_5 : decode cX4_fillByPartitions 5 = .ok (.getfield 9, 3) := by decide +kernel
set_option maxRecDepth 20000 in
theorem dX4_fillByPartitions_8 : decode cX4_fillByPartitions 8 = .ok (.invokespecial 63, 3) := by decide +kernel
set_option maxRecDepth 20000 in
theorem dX4_fillByPartitions_11 : decode cX4_fillByPartitions 11 = .ok (.astore_n 2, 1) := by decide +kernel
set_option maxRecDepth 20000 in
theorem dX4_fillByPartitions_12 : decode cX4_fillByPartitions 12 = .ok (.iconst 1, 1) := by decide +kernel
set_option maxRecDepth 20000 in
theorem dX4_fillByPartitions_13 : decode cX4_fillByPartitions 13 = .ok (.istore_n 3, 1) := by decide +kernel
set_option maxRecDepth 20000 in
theorem dX4_fillByPartitions_14 : decode cX4_fillByPartitions 14 = .ok (.iconst 0, 1) := by decide +kernel
set_option maxRecDepth 20000 in
theorem dX4_fillByPartitions_15 : decode cX4_fillByPartitions 15 = .ok (.istore 4, 2) := by decide +kernel
set_option maxRecDepth 20000 in
theorem dX4_fillByPartitions_17 : decode cX4_fillByPartitions 17 = .ok (.iload 4, 2) := by decide +kernel
set_option maxRecDepth 20000 in
theorem dX4_fillByPartitions_19 : decode cX4_fillByPartitions 19 = .ok (.sipush 1000, 3) := by decide +kernel
set_option maxRecDepth 20000 in
theorem dX4_fillByPartitions_22 : decode cX4_fillByPartitions 22 = .ok (.if_icmp .ge 86, 3) := by decide +kernel
set_option maxRecDepth 20000 in
theorem dX4_fillByPartitions_25 : decode cX4_fillByPartitions 25 = .ok (.iload_n 3, 1) := by decide +kernel
set_option maxRecDepth 20000 in
theorem dX4_fillByPartitions_26 : decode cX4_fillByPartitions 26 = .ok (.ifCond .eq 82, 3) := by decide +kernel
set_option maxRecDepth 20000 in
theorem dX4_fillByPartitions_29 : decode cX4_fillByPartitions 29 = .ok (.iload_n 1, 1) := by decide +kernel
set_option maxRecDepth 20000 in
theorem dX4_fillByPartitions_30 : decode cX4_fillByPartitions 30 = .ok (.bipush 6, 2) := by decide +kernel
set_option maxRecDepth 20000 in
theorem dX4_fillByPartitions_32 : decode cX4_fillByPartitions 32 = .ok (.if_icmp .ne 39, 3) := by decide +kernel
set_option maxRecDepth 20000 in
theorem dX4_fillByPartitions_35 : decode cX4_fillByPartitions 35 = .ok (.aload_n 0, 1) := by decide +kernel
set_option maxRecDepth 20000 in
theorem dX4_fillByPartitions_36 : decode cX4_fillByPartitions 36 = .ok (.getfield 15, 3) := by decide +kernel
set_option maxRecDepth 20000 in
theorem dX4_fillByPartitions_39 : decode cX4_fillByPartitions 39 = .ok (.aload_n 0, 1) := by decide +kernel
set_option maxRecDepth 20000 in
theorem dX4_fillByPartitions_40 : decode cX4_fillByPartitions 40 = .ok (.getfield 9, 3) := by decide +kernel
set_option maxRecDepth 20000 in
theorem dX4_fillByPartitions_43 : decode cX4_fillByPartitions 43 = .ok (.invokevirtual 65, 3) := by decide +kernel
set_option maxRecDepth 20000 in
theorem dX4_fillByPartitions_46 : decode cX4_fillByPartitions 46 = .ok (.aload_n 2, 1) := by decide +kernel
set_option maxRecDepth 20000 in
theorem dX4_fillByPartitions_47 : decode cX4_fillByPartitions 47 = .ok (.invokevirtual 69, 3) := by decide +kernel
set_option maxRecDepth 20000 in
theorem dX4_fillByPartitions_50 : decode cX4_fillByPartitions 50 = .ok (.invokestatic 73, 3) := by decide +kernel
set_option maxRecDepth 20000 in
theorem dX4_fillByPartitions_53 : decode cX4_fillByPartitions 53 = .ok (.lstore 5, 2) := by decide +kernel
set_option maxRecDepth 20000 in
theorem dX4_fillByPartitions_55 : decode cX4_fillByPartitions 55 = .ok (.aload_n 0, 1) := by decide +kernel
set_option maxRecDepth 20000 in
theorem dX4_fillByPartitions_56 : decode cX4_fillByPartitions 56 = .ok (.aload_n 2, 1) := by decide +kernel
set_option maxRecDepth 20000 in
theorem dX4_fillByPartitions_57 : decode cX4_fillByPartitions 57 = .ok (.invokevirtual 77, 3) := by decide +kernel
set_option maxRecDepth 20000 in
theorem dX4_fillByPartitions_60 : decode cX4_fillByPartitions 60 = .ok (.lload 5, 2) := by decide +kernel
set_option maxRecDepth 20000 in
theorem dX4_fillByPartitions_62 : decode cX4_fillByPartitions 62 = .ok (.lload 5, 2) := by decide +kernel
set_option maxRecDepth 20000 in
theorem dX4_fillByPartitions_64 : decode cX4_fillByPartitions 64 = .ok (.lmul, 1) := by decide +kernel
set_option maxRecDepth 20000 in
theorem dX4_fillByPartitions_65 : decode cX4_fillByPartitions 65 = .ok (.invokevirtual 81, 3) := by decide +kernel
set_option maxRecDepth 20000 in
theorem dX4_fillByPartitions_68 : decode cX4_fillByPartitions 68 = .ok (.goto 29, 3) := by decide +kernel
set_option maxRecDepth 20000 in
theorem dX4_fillByPartitions_71 : decode cX4_fillByPartitions 71 = .ok (.aload_n 0, 1) := by decide +kernel
set_option maxRecDepth 20000 in
theorem dX4_fillByPartitions_72 : decode cX4_fillByPartitions 72 = .ok (.aload_n 2, 1) := by decide +kernel
set_option maxRecDepth 20000 in
theorem dX4_fillByPartitions_73 : decode cX4_fillByPartitions 73 = .ok (.invokevirtual 85, 3) := by decide +kernel
set_option maxRecDepth 20000 in
theorem dX4_fillByPartitions_76 : decode cX4_fillByPartitions 76 = .ok (.aload_n 0, 1) := by decide +kernel
set_option maxRecDepth 20000 in
theorem dX4_fillByPartitions_77 : decode cX4_fillByPartitions 77 = .ok (.getfield 15, 3) := by decide +kernel
set_option maxRecDepth 20000 in
theorem dX4_fillByPartitions_80 : decode cX4_fillByPartitions 80 = .ok (.aload_n 0, 1) := by decide +kernel
set_option maxRecDepth 20000 in
theorem dX4_fillByPartitions_81 : decode cX4_fillByPartitions 81 = .ok (.getfield 9, 3) := by decide +kernel
set_option maxRecDepth 20000 in
theorem dX4_fillByPartitions_84 : decode cX4_fillByPartitions 84 = .ok (.invokevirtual 65, 3) := by decide +kernel
set_option maxRecDepth 20000 in
theorem dX4_fillByPartitions_87 : decode cX4_fillByPartitions 87 = .ok (.aload_n 2, 1) := by decide +kernel
set_option maxRecDepth 20000 in
theorem dX4_fillByPartitions_88 : decode cX4_fillByPartitions 88 = .ok (.invokevirtual 88, 3) := by decide +kernel
set_option maxRecDepth 20000 in
theorem dX4_fillByPartitions_91 : decode cX4_fillByPartitions 91 = .ok (.invokestatic 73, 3) := by decide +kernel
set_option maxRecDepth 20000 in
theorem dX4_fillByPartitions_94 : decode cX4_fillByPartitions 94 = .ok (.invokevirtual 81, 3) := by decide +kernel
set_option maxRecDepth 20000 in
theorem dX4_fillByPartitions_97 : decode cX4_fillByPartitions 97 = .ok (.aload_n 2, 1) := by decide +kernel
set_option maxRecDepth 20000 in
theorem dX4_fillByPartitions_98 : decode cX4_fillByPartitions 98 = .ok (.invokevirtual 91, 3) := by decide +kernel
set_option maxRecDepth 20000 in
theorem dX4_fillByPartitions_101 : decode cX4_fillByPartitions 101 = .ok (.istore_n 3, 1) := by decide +kernel
set_option maxRecDepth 20000 in
theorem dX4_fillByPartitions_102 : decode cX4_fillByPartitions 102 = .ok (.iinc 4 1, 3) := by decide +kernel
set_option maxRecDepth 20000 in
theorem dX4_fillByPartitions_105 : decode cX4_fillByPartitions 105 = .ok (.goto (-88), 3) := by decide +kernel
set_option maxRecDepth 20000 in
theorem dX4_fillByPartitions_108 : decode cX4_fillByPartitions 108 = .ok (.return_, 1) := by decide +kernel
set_option maxRecDepth 20000 in
theorem dX4_addOrders_0 : decode cX4_addOrders 0 = .ok (.iload_n 1, 1) := by decide +kernel
set_option maxRecDepth 20000 in
theorem dX4_addOrders_1 : decode cX4_addOrders 1 = .ok (.ifCond .lt 22, 3) := by decide +kernel
set_option maxRecDepth 20000 in
theorem dX4_addOrders_4 : decode cX4_addOrders 4 = .ok (.iload_n 1, 1) := by decide +kernel
set_option maxRecDepth 20000 in
theorem dX4_addOrders_5 : decode cX4_addOrders 5 = .ok (.aload_n 0, 1) := by decide +kernel
set_option maxRecDepth 20000 in
theorem dX4_addOrders_6 : decode cX4_addOrders 6 = .ok (.getfield 23, 3) := by decide +kernel
set_option maxRecDepth 20000 in
theorem dX4_addOrders_9 : decode cX4_addOrders 9 = .ok (.arraylength, 1) := by decide +kernel
set_option maxRecDepth 20000 in
theorem dX4_addOrders_10 : decode cX4_addOrders 10 = .ok (.if_icmp .ge 13, 3) := by decide +kernel
set_option maxRecDepth 20000 in
theorem dX4_addOrders_13 : decode cX4_addOrders 13 = .ok (.aload_n 0, 1) := by decide +kernel
set_option maxRecDepth 20000 in
theorem dX4_addOrders_14 : decode cX4_addOrders 14 = .ok (.getfield 23, 3) := by decide +kernel
set_option maxRecDepth 20000 in
theorem dX4_addOrders_17 : decode cX4_addOrders 17 = .ok (.iload_n 1, 1) := by decide +kernel
set_option maxRecDepth 20000 in
theorem dX4_addOrders_18 : decode cX4_addOrders 18 = .ok (.dup2, 1) := by decide +kernel
set_option maxRecDepth 20000 in
theorem dX4_addOrders_19 : decode cX4_addOrders 19 = .ok (.laload, 1) := by decide +kernel
set_option maxRecDepth 20000 in
theorem dX4_addOrders_20 : decode cX4_addOrders 20 = .ok (.lload_n 2, 1) := by decide +kernel
set_option maxRecDepth 20000 in
theorem dX4_addOrders_21 : decode cX4_addOrders 21 = .ok (.ladd, 1) := by decide +kernel
set_option maxRecDepth 20000 in
theorem dX4_addOrders_22 : decode cX4_addOrders 22 = .ok (.lastore, 1) := by decide +kernel
set_option maxRecDepth 20000 in
theorem dX4_addOrders_23 : decode cX4_addOrders 23 = .ok (.return_, 1) := by decide +kernel
set_option maxRecDepth 20000 in
theorem dX4_ordersWith_0 : decode cX4_ordersWith 0 = .ok (.aload_n 0, 1) := by decide +kernel
set_option maxRecDepth 20000 in
theorem dX4_ordersWith_1 : decode cX4_ordersWith 1 = .ok (.getfield 23, 3) := by decide +kernel
set_option maxRecDepth 20000 in
theorem dX4_ordersWith_4 : decode cX4_ordersWith 4 = .ok (.iload_n 1, 1) := by decide +kernel
set_option maxRecDepth 20000 in
theorem dX4_ordersWith_5 : decode cX4_ordersWith 5 = .ok (.invokestatic 95, 3) := by decide +kernel
set_option maxRecDepth 20000 in
theorem dX4_ordersWith_8 : decode cX4_ordersWith 8 = .ok (.lreturn, 1) := by decide +kernel
set_option maxRecDepth 20000 in
theorem dX4_sumOfNumbers_0 : decode cX4_sumOfNumbers 0 = .ok (.lconst 0, 1) := by decide +kernel
set_option maxRecDepth 20000 in
theorem dX4_sumOfNumbers_1 : decode cX4_sumOfNumbers 1 = .ok (.lstore_n 1, 1) := by decide +kernel
set_option maxRecDepth 20000 in
theorem dX4_sumOfNumbers_2 : decode cX4_sumOfNumbers 2 = .ok (.iconst 0, 1) := by decide +kernel
set_option maxRecDepth 20000 in
theorem dX4_sumOfNumbers_3 : decode cX4_sumOfNumbers 3 = .ok (.istore_n 3, 1) := by decide +kernel
set_option maxRecDepth 20000 in
theorem dX4_sumOfNumbers_4 : decode cX4_sumOfNumbers 4 = .ok (.iload_n 3, 1) := by decide +kernel
set_option maxRecDepth 20000 in
theorem dX4_sumOfNumbers_5 : decode cX4_sumOfNumbers 5 = .ok (.aload_n 0, 1) := by decide +kernel
set_option maxRecDepth 20000 in
theorem dX4_sumOfNumbers_6 : decode cX4_sumOfNumbers 6 = .ok (.getfield 23, 3) := by decide +kernel
set_option maxRecDepth 20000 in
theorem dX4_sumOfNumbers_9 : decode cX4_sumOfNumbers 9 = .ok (.arraylength, 1) := by decide +kernel
set_option maxRecDepth 20000 in
theorem dX4_sumOfNumbers_10 : decode cX4_sumOfNumbers 10 = .ok (.if_icmp .ge 21, 3) := by decide +kernel
set_option maxRecDepth 20000 in
theorem dX4_sumOfNumbers_13 : decode cX4_sumOfNumbers 13 = .ok (.lload_n 1, 1) := by decide +kernel
set_option maxRecDepth 20000 in
theorem dX4_sumOfNumbers_14 : decode cX4_sumOfNumbers 14 = .ok (.iload_n 3, 1) := by decide +kernel
set_option maxRecDepth 20000 in
theorem dX4_sumOfNumbers_15 : decode cX4_sumOfNumbers 15 = .ok (.i2l, 1) := by decide +kernel
set_option maxRecDepth 20000 in
theorem dX4_sumOfNumbers_16 : decode cX4_sumOfNumbers 16 = .ok (.aload_n 0, 1) := by decide +kernel
set_option maxRecDepth 20000 in
theorem dX4_sumOfNumbers_17 : decode cX4_sumOfNumbers 17 = .ok (.getfield 23, 3) := by decide +kernel
set_option maxRecDepth 20000 in
theorem dX4_sumOfNumbers_20 : decode cX4_sumOfNumbers 20 = .ok (.iload_n 3, 1) := by decide +kernel
set_option maxRecDepth 20000 in
theorem dX4_sumOfNumbers_21 : decode cX4_sumOfNumbers 21 = .ok (.laload, 1) := by decide +kernel
set_option maxRecDepth 20000 in
theorem dX4_sumOfNumbers_22 : decode cX4_sumOfNumbers 22 = .ok (.lmul, 1) := by decide +kernel
set_option maxRecDepth 20000 in
theorem dX4_sumOfNumbers_23 : decode cX4_sumOfNumbers 23 = .ok (.ladd, 1) := by decide +kernel
set_option maxRecDepth 20000 in
theorem dX4_sumOfNumbers_24 : decode cX4_sumOfNumbers 24 = .ok (.lstore_n 1, 1) := by decide +kernel
set_option maxRecDepth 20000 in
theorem dX4_sumOfNumbers_25 : decode cX4_sumOfNumbers 25 = .ok (.iinc 3 1, 3) := by decide +kernel
set_option maxRecDepth 20000 in
theorem dX4_sumOfNumbers_28 : decode cX4_sumOfNumbers 28 = .ok (.goto (-24), 3) := by decide +kernel
set_option maxRecDepth 20000 in
theorem dX4_sumOfNumbers_31 : decode cX4_sumOfNumbers 31 = .ok (.lload_n 1, 1) := by decide +kernel
set_option maxRecDepth 20000 in
theorem dX4_sumOfNumbers_32 : decode cX4_sumOfNumbers 32 = .ok (.lreturn, 1) := by decide +kernel
set_option maxRecDepth 20000 in
theorem dX5_init_0 : decode cX5_init 0 = .ok (.aload_n 0, 1) := by decide +kernel
set_option maxRecDepth 20000 in
theorem dX5_init_1 : decode cX5_init 1 = .ok (.invokespecial 3, 3) := by decide +kernel
set_option maxRecDepth 20000 in
theorem dX5_init_4 : decode cX5_init 4 = .ok (.aload_n 0, 1) := by decide +kernel
set_option maxRecDepth 20000 in
theorem dX5_init_5 : decode cX5_init 5 = .ok (.bipush 18, 2) := by decide +kernel
set_option maxRecDepth 20000 in
theorem dX5_init_7 : decode cX5_init 7 = .ok (.newarray .boolean, 2) := by decide +kernel
set_option maxRecDepth 20000 in
theorem dX5_init_9 : decode cX5_init 9 = .ok (.putfield 9, 3) := by decide +kernel
set_option maxRecDepth 20000 in
theorem dX5_init_12 : decode cX5_init 12 = .ok (.aload_n 0, 1) := by decide +kernel
set_option maxRecDepth 20000 in
theorem dX5_init_13 : decode cX5_init 13 = .ok (.aload_n 1, 1) := by decide +kernel
set_option maxRecDepth 20000 in
theorem dX5_init_14 : decode cX5_init 14 = .ok (.putfield 15, 3) := by decide +kernel
set_option maxRecDepth 20000 in
theorem dX5_init_17 : decode cX5_init 17 = .ok (.return_, 1) := by decide +kernel
set_option maxRecDepth 20000 in
theorem dX5_start_0 : decode cX5_start 0 = .ok (.aload_n 0, 1) := by decide +kernel
set_option maxRecDepth 20000 in
theorem dX5_start_1 : decode cX5_start 1 = .ok (.iload_n 1, 1) := by decide +kernel
set_option maxRecDepth 20000 in
theorem dX5_start_2 : decode cX5_start 2 = .ok (.putfield 19, 3) := by decide +kernel
set_option maxRecDepth 20000 in
theorem dX5_start_5 : decode cX5_start 5 = .ok (.aload_n 0, 1) := by decide +kernel
set_option maxRecDepth 20000 in
theorem dX5_start_6 : decode cX5_start 6 = .ok (.iload_n 2, 1) := by decide +kernel
set_option maxRecDepth 20000 in
theorem dX5_start_7 : decode cX5_start 7 = .ok (.bipush 18, 2) := by decide +kernel
set_option maxRecDepth 20000 in
theorem dX5_start_9 : decode cX5_start 9 = .ok (.invokestatic 23, 3) := by decide +kernel
set_option maxRecDepth 20000 in
theorem dX5_start_12 : decode cX5_start 12 = .ok (.putfield 29, 3) := by decide +kernel
set_option maxRecDepth 20000 in
theorem dX5_start_15 : decode cX5_start 15 = .ok (.aload_n 0, 1) := by decide +kernel
set_option maxRecDepth 20000 in
theorem dX5_start_16 : decode cX5_start 16 = .ok (.iload_n 3, 1) := by decide +kernel
set_option maxRecDepth 20000 in
theorem dX5_start_17 : decode cX5_start 17 = .ok (.putfield 32, 3) := by decide +kernel
set_option maxRecDepth 20000 in
theorem dX5_start_20 : decode cX5_start 20 = .ok (.aload_n 0, 1) := by decide +kernel
set_option maxRecDepth 20000 in
theorem dX5_start_21 : decode cX5_start 21 = .ok (.aload_n 0, 1) := by decide +kernel
set_option maxRecDepth 20000 in
theorem dX5_start_22 : decode cX5_start 22 = .ok (.getfield 29, 3) := by decide +kernel
set_option maxRecDepth 20000 in
theorem dX5_start_25 : decode cX5_start 25 = .ok (.putfield 35, 3) := by decide +kernel
set_option maxRecDepth 20000 in
theorem dX5_start_28 : decode cX5_start 28 = .ok (.aload_n 0, 1) := by decide +kernel
set_option maxRecDepth 20000 in
theorem dX5_start_29 : decode cX5_start 29 = .ok (.aload_n 0, 1) := by decide +kernel
set_option maxRecDepth 20000 in
theorem dX5_start_30 : decode cX5_start 30 = .ok (.getfield 29, 3) := by decide +kernel
set_option maxRecDepth 20000 in
theorem dX5_start_33 : decode cX5_start 33 = .ok (.putfield 38, 3) := by decide +kernel
set_option maxRecDepth 20000 in
theorem dX5_start_36 : decode cX5_start 36 = .ok (.aload_n 0, 1) := by decide +kernel
set_option maxRecDepth 20000 in
theorem dX5_start_37 : decode cX5_start 37 = .ok (.iconst (-1), 1) := by decide +kernel
set_option maxRecDepth 20000 in
theorem dX5_start_38 : decode cX5_start 38 = .ok (.putfield 41, 3) := by decide +kernel
set_option maxRecDepth 20000 in
theorem dX5_start_41 : decode cX5_start 41 = .ok (.iconst 0, 1) := by decide +kernel
set_option maxRecDepth 20000 in
theorem dX5_start_42 : decode cX5_start 42 = .ok (.istore 4, 2) := by decide +kernel
set_option maxRecDepth 20000 in
theorem dX5_start_44 : decode cX5_start 44 = .ok (.iload 4, 2) := by decide +kernel
set_option maxRecDepth 20000 in
theorem dX5_start_46 : decode cX5_start 46 = .ok (.bipush 18, 2) := by decide +kernel
set_option maxRecDepth 20000 in
theorem dX5_start_48 : decode cX5_start 48 = .ok (.if_icmp .ge 17, 3) := by decide +kernel
set_option maxRecDepth 20000 in
theorem dX5_start_51 : decode cX5_start 51 = .ok (.aload_n 0, 1) := by decide +kernel
set_option maxRecDepth 20000 in
theorem dX5_start_52 : decode cX5_start 52 = .ok (.getfield 9, 3) := by decide +kernel
set_option maxRecDepth 20000 in
theorem dX5_start_55 : decode cX5_start 55 = .ok (.iload 4, 2) := by decide +kernel
set_option maxRecDepth 20000 in
theorem dX5_start_57 : decode cX5_start 57 = .ok (.iconst 0, 1) := by decide +kernel
set_option maxRecDepth 20000 in
theorem dX5_start_58 : decode cX5_start 58 = .ok (.bastore, 1) := by decide +kernel
set_option maxRecDepth 20000 in
theorem dX5_start_59 : decode cX5_start 59 = .ok (.iinc 4 1, 3) := by decide +kernel
set_option maxRecDepth 20000 in
theorem dX5_start_62 : decode cX5_start 62 = .ok (.goto (-18), 3) := by decide +kernel
set_option maxRecDepth 20000 in
theorem dX5_start_65 : decode cX5_start 65 = .ok (.return_, 1) := by decide +kernel
set_option maxRecDepth 20000 in
theorem dX5_waysAtStart_0 : decode cX5_waysAtStart 0 = .ok (.aload_n 0, 1) := by decide +kernel
set_option maxRecDepth 20000 in
theorem dX5_waysAtStart_1 : decode cX5_waysAtStart 1 = .ok (.aload_n 0, 1) := by decide +kernel
set_option maxRecDepth 20000 in
theorem dX5_waysAtStart_2 : decode cX5_waysAtStart 2 = .ok (.getfield 29, 3) := by decide +kernel
set_option maxRecDepth 20000 in
theorem dX5_waysAtStart_5 : decode cX5_waysAtStart 5 = .ok (.aload_n 0, 1) := by decide +kernel
set_option maxRecDepth 20000 in
theorem dX5_waysAtStart_6 : decode cX5_waysAtStart 6 = .ok (.getfield 29, 3) := by decide +kernel
set_option maxRecDepth 20000 in
theorem dX5_waysAtStart_9 : decode cX5_waysAtStart 9 = .ok (.aload_n 0, 1) := by decide +kernel
set_option maxRecDepth 20000 in
theorem dX5_waysAtStart_10 : decode cX5_waysAtStart 10 = .ok (.getfield 29, 3) := by decide +kernel
set_option maxRecDepth 20000 in
theorem dX5_waysAtStart_13 : decode cX5_waysAtStart 13 = .ok (.aload_n 0, 1) := by decide +kernel
set_option maxRecDepth 20000 in
theorem dX5_waysAtStart_14 : decode cX5_waysAtStart 14 = .ok (.getfield 32, 3) := by decide +kernel
set_option maxRecDepth 20000 in
theorem dX5_waysAtStart_17 : decode cX5_waysAtStart 17 = .ok (.invokevirtual 44, 3) := by decide +kernel
set_option maxRecDepth 20000 in
theorem dX5_waysAtStart_20 : decode cX5_waysAtStart 20 = .ok (.lreturn, 1) := by decide +kernel
set_option maxRecDepth 20000 in
theorem dX5_writeRow_0 : decode cX5_writeRow 0 = .ok (.lload_n 1, 1) := by decide +kernel
set_option maxRecDepth 20000 in
theorem dX5_writeRow_1 : decode cX5_writeRow 1 = .ok (.lstore 4, 2) := by decide +kernel
set_option maxRecDepth 20000 in
theorem dX5_writeRow_3 : decode cX5_writeRow 3 = .ok (.iconst 0, 1) := by decide +kernel
set_option maxRecDepth 20000 in
theorem dX5_writeRow_4 : decode cX5_writeRow 4 = .ok (.istore 6, 2) := by decide +kernel
set_option maxRecDepth 20000 in
theorem dX5_writeRow_6 : decode cX5_writeRow 6 = .ok (.iload 6, 2) := by decide +kernel
set_option maxRecDepth 20000 in
theorem dX5_writeRow_8 : decode cX5_writeRow 8 = .ok (.aload_n 0, 1) := by decide +kernel
set_option maxRecDepth 20000 in
theorem dX5_writeRow_9 : decode cX5_writeRow 9 = .ok (.getfield 29, 3) := by decide +kernel
set_option maxRecDepth 20000 in
theorem dX5_writeRow_12 : decode cX5_writeRow 12 = .ok (.if_icmp .ge 88, 3) := by decide +kernel
set_option maxRecDepth 20000 in
theorem dX5_writeRow_15 : decode cX5_writeRow 15 = .ok (.iconst 0, 1) := by decide +kernel
set_option maxRecDepth 20000 in
theorem dX5_writeRow_16 : decode cX5_writeRow 16 = .ok (.istore 7, 2) := by decide +kernel
set_option maxRecDepth 20000 in
theorem dX5_writeRow_18 : decode cX5_writeRow 18 = .ok (.iconst 0, 1) := by decide +kernel
set_option maxRecDepth 20000 in
theorem dX5_writeRow_19 : decode cX5_writeRow 19 = .ok (.istore 8, 2) := by decide +kernel
set_option maxRecDepth 20000 in
theorem dX5_writeRow_21 : decode cX5_writeRow 21 = .ok (.iload 8, 2) := by decide +kernel
set_option maxRecDepth 20000 in
theorem dX5_writeRow_23 : decode cX5_writeRow 23 = .ok (.aload_n 0, 1) := by decide +kernel
set_option maxRecDepth 20000 in
theorem dX5_writeRow_24 : decode cX5_writeRow 24 = .ok (.getfield 29, 3) := by decide +kernel
set_option maxRecDepth 20000 in
theorem dX5_writeRow_27 : decode cX5_writeRow 27 = .ok (.if_icmp .ge 67, 3) := by decide +kernel
set_option maxRecDepth 20000 in
theorem dX5_writeRow_30 : decode cX5_writeRow 30 = .ok (.aload_n 0, 1) := by decide +kernel
set_option maxRecDepth 20000 in
theorem dX5_writeRow_31 : decode cX5_writeRow 31 = .ok (.getfield 9, 3) := by decide +kernel
set_option maxRecDepth 20000 in
theorem dX5_writeRow_34 : decode cX5_writeRow 34 = .ok (.iload 8, 2) := by decide +kernel
set_option maxRecDepth 20000 in
theorem dX5_writeRow_36 : decode cX5_writeRow 36 = .ok (.baload, 1) := by decide +kernel
set_option maxRecDepth 20000 in
theorem dX5_writeRow_37 : decode cX5_writeRow 37 = .ok (.ifCond .eq 6, 3) := by decide +kernel
set_option maxRecDepth 20000 in
theorem dX5_writeRow_40 : decode cX5_writeRow 40 = .ok (.goto 48, 3) := by decide +kernel
set_option maxRecDepth 20000 in
theorem dX5_writeRow_43 : decode cX5_writeRow 43 = .ok (.aload_n 0, 1) := by decide +kernel
set_option maxRecDepth 20000 in
theorem dX5_writeRow_44 : decode cX5_writeRow 44 = .ok (.iload 8, 2) := by decide +kernel
set_option maxRecDepth 20000 in
theorem dX5_writeRow_46 : decode cX5_writeRow 46 = .ok (.iload 7, 2) := by decide +kernel
set_option maxRecDepth 20000 in
theorem dX5_writeRow_48 : decode cX5_writeRow 48 = .ok (.invokevirtual 48, 3) := by decide +kernel
set_option maxRecDepth 20000 in
theorem dX5_writeRow_51 : decode cX5_writeRow 51 = .ok (.lstore 9, 2) := by decide +kernel
set_option maxRecDepth 20000 in
theorem dX5_writeRow_53 : decode cX5_writeRow 53 = .ok (.lload 4, 2) := by decide +kernel
set_option maxRecDepth 20000 in
theorem dX5_writeRow_55 : decode cX5_writeRow 55 = .ok (.lload 9, 2) := by decide +kernel
set_option maxRecDepth 20000 in
theorem dX5_writeRow_57 : decode cX5_writeRow 57 = .ok (.lcmp, 1) := by decide +kernel
set_option maxRecDepth 20000 in
theorem dX5_writeRow_58 : decode cX5_writeRow 58 = .ok (.ifCond .ge 20, 3) := by decide +kernel
set_option maxRecDepth 20000 in
theorem dX5_writeRow_61 : decode cX5_writeRow 61 = .ok (.aload_n 3, 1) := by decide +kernel
set_option maxRecDepth 20000 in
theorem dX5_writeRow_62 : decode cX5_writeRow 62 = .ok (.iload 6, 2) := by decide +kernel
set_option maxRecDepth 20000 in
theorem dX5_writeRow_64 : decode cX5_writeRow 64 = .ok (.iload 8, 2) := by decide +kernel
set_option maxRecDepth 20000 in
theorem dX5_writeRow_66 : decode cX5_writeRow 66 = .ok (.invokevirtual 52, 3) := by decide +kernel
set_option maxRecDepth 20000 in
theorem dX5_writeRow_69 : decode cX5_writeRow 69 = .ok (.aload_n 0, 1) := by decide +kernel
set_option maxRecDepth 20000 in
theorem dX5_writeRow_70 : decode cX5_writeRow 70 = .ok (.iload 8, 2) := by decide +kernel
set_option maxRecDepth 20000 in
theorem dX5_writeRow_72 : decode cX5_writeRow 72 = .ok (.invokevirtual 58, 3) := by decide +kernel
set_option maxRecDepth 20000 in
theorem dX5_writeRow_75 : decode cX5_writeRow 75 = .ok (.goto 19, 3) := by decide +kernel
set_option maxRecDepth 20000 in
theorem dX5_writeRow_78 : decode cX5_writeRow 78 = .ok (.lload 4, 2) := by decide +kernel
set_option maxRecDepth 20000 in
theorem dX5_writeRow_80 : decode cX5_writeRow 80 = .ok (.lload 9, 2) := by decide +kernel
set_option maxRecDepth 20000 in
theorem dX5_writeRow_82 : decode cX5_writeRow 82 = .ok (.lsub, 1) := by decide +kernel
set_option maxRecDepth 20000 in
theorem dX5_writeRow_83 : decode cX5_writeRow 83 = .ok (.lstore 4, 2) := by decide +kernel
set_option maxRecDepth 20000 in
theorem dX5_writeRow_85 : decode cX5_writeRow 85 = .ok (.iinc 7 1, 3) := by decide +kernel
set_option maxRecDepth 20000 in
theorem dX5_writeRow_88 : decode cX5_writeRow 88 = .ok (.iinc 8 1, 3) := by decide +kernel
set_option maxRecDepth 20000 in
theorem dX5_writeRow_91 : decode cX5_writeRow 91 = .ok (.goto (-70), 3) := by decide +kernel
set_option maxRecDepth 20000 in
theorem dX5_writeRow_94 : decode cX5_writeRow 94 = .ok (.iinc 6 1, 3) := by decide +kernel
set_option maxRecDepth 20000 in
theorem dX5_writeRow_97 : decode cX5_writeRow 97 = .ok (.goto (-91), 3) := by decide +kernel
set_option maxRecDepth 20000 in
theorem dX5_writeRow_100 : decode cX5_writeRow 100 = .ok (.aload_n 3, 1) := by decide +kernel
set_option maxRecDepth 20000 in
theorem dX5_writeRow_101 : decode cX5_writeRow 101 = .ok (.invokevirtual 62, 3) := by decide +kernel
set_option maxRecDepth 20000 in
theorem dX5_writeRow_104 : decode cX5_writeRow 104 = .ok (.return_, 1) := by decide +kernel
set_option maxRecDepth 20000 in
theorem dX5_rowsAheadOf_0 : decode cX5_rowsAheadOf 0 = .ok (.lconst 0, 1) := by decide +kernel
set_option maxRecDepth 20000 in
theorem dX5_rowsAheadOf_1 : decode cX5_rowsAheadOf 1 = .ok (.lstore_n 2, 1) := by decide +kernel
set_option maxRecDepth 20000 in
theorem dX5_rowsAheadOf_2 : decode cX5_rowsAheadOf 2 = .ok (.iconst 0, 1) := by decide +kernel
set_option maxRecDepth 20000 in
theorem dX5_rowsAheadOf_3 : decode cX5_rowsAheadOf 3 = .ok (.istore 4, 2) := by decide +kernel
set_option maxRecDepth 20000 in
theorem dX5_rowsAheadOf_5 : decode cX5_rowsAheadOf 5 = .ok (.iload 4, 2) := by decide +kernel
set_option maxRecDepth 20000 in
theorem dX5_rowsAheadOf_7 : decode cX5_rowsAheadOf 7 = .ok (.aload_n 0, 1) := by decide +kernel
set_option maxRecDepth 20000 in
theorem dX5_rowsAheadOf_8 : decode cX5_rowsAheadOf 8 = .ok (.getfield 29, 3) := by decide +kernel
set_option maxRecDepth 20000 in
theorem dX5_rowsAheadOf_11 : decode cX5_rowsAheadOf 11 = .ok (.if_icmp .ge 75, 3) := by decide +kernel
set_option maxRecDepth 20000 in
theorem dX5_rowsAheadOf_14 : decode cX5_rowsAheadOf 14 = .ok (.aload_n 1, 1) := by decide +kernel
set_option maxRecDepth 20000 in
theorem dX5_rowsAheadOf_15 : decode cX5_rowsAheadOf 15 = .ok (.iload 4, 2) := by decide +kernel
set_option maxRecDepth 20000 in
theorem dX5_rowsAheadOf_17 : decode cX5_rowsAheadOf 17 = .ok (.invokevirtual 65, 3) := by decide +kernel
set_option maxRecDepth 20000 in
theorem dX5_rowsAheadOf_20 : decode cX5_rowsAheadOf 20 = .ok (.istore 5, 2) := by decide +kernel
set_option maxRecDepth 20000 in
theorem dX5_rowsAheadOf_22 : decode cX5_rowsAheadOf 22 = .ok (.iconst 0, 1) := by decide +kernel
set_option maxRecDepth 20000 in
theorem dX5_rowsAheadOf_23 : decode cX5_rowsAheadOf 23 = .ok (.istore 6, 2) := by decide +kernel
set_option maxRecDepth 20000 in
theorem dX5_rowsAheadOf_25 : decode cX5_rowsAheadOf 25 = .ok (.iconst 0, 1) := by decide +kernel
set_option maxRecDepth 20000 in
theorem dX5_rowsAheadOf_26 : decode cX5_rowsAheadOf 26 = .ok (.istore 7, 2) := by decide +kernel
set_option maxRecDepth 20000 in
theorem dX5_rowsAheadOf_28 : decode cX5_rowsAheadOf 28 = .ok (.iload 7, 2) := by decide +kernel
set_option maxRecDepth 20000 in
theorem dX5_rowsAheadOf_30 : decode cX5_rowsAheadOf 30 = .ok (.iload 5, 2) := by decide +kernel
set_option maxRecDepth 20000 in
theorem dX5_rowsAheadOf_32 : decode cX5_rowsAheadOf 32 = .ok (.if_icmp .ge 42, 3) := by decide +kernel
set_option maxRecDepth 20000 in
theorem dX5_rowsAheadOf_35 : decode cX5_rowsAheadOf 35 = .ok (.iload 7, 2) := by decide +kernel
set_option maxRecDepth 20000 in
theorem dX5_rowsAheadOf_37 : decode cX5_rowsAheadOf 37 = .ok (.aload_n 0, 1) := by decide +kernel
set_option maxRecDepth 20000 in
theorem dX5_rowsAheadOf_38 : decode cX5_rowsAheadOf 38 = .ok (.getfield 29, 3) := by decide +kernel
set_option maxRecDepth 20000 in
theorem dX5_rowsAheadOf_41 : decode cX5_rowsAheadOf 41 = .ok (.if_icmp .ge 33, 3) := by decide +kernel
set_option maxRecDepth 20000 in
theorem dX5_rowsAheadOf_44 : decode cX5_rowsAheadOf 44 = .ok (.aload_n 0, 1) := by decide +kernel
set_option maxRecDepth 20000 in
theorem dX5_rowsAheadOf_45 : decode cX5_rowsAheadOf 45 = .ok (.getfield 9, 3) := by decide +kernel
set_option maxRecDepth 20000 in
theorem dX5_rowsAheadOf_48 : decode cX5_rowsAheadOf 48 = .ok (.iload 7, 2) := by decide +kernel
set_option maxRecDepth 20000 in
theorem dX5_rowsAheadOf_50 : decode cX5_rowsAheadOf 50 = .ok (.baload, 1) := by decide +kernel
set_option maxRecDepth 20000 in
theorem dX5_rowsAheadOf_51 : decode cX5_rowsAheadOf 51 = .ok (.ifCond .ne 17, 3) := by decide +kernel
set_option maxRecDepth 20000 in
theorem dX5_rowsAheadOf_54 : decode cX5_rowsAheadOf 54 = .ok (.lload_n 2, 1) := by decide +kernel
set_option maxRecDepth 20000 in
theorem dX5_rowsAheadOf_55 : decode cX5_rowsAheadOf 55 = .ok (.aload_n 0, 1) := by decide +kernel
set_option maxRecDepth 20000 in
theorem dX5_rowsAheadOf_56 : decode cX5_rowsAheadOf 56 = .ok (.iload 7, 2) := by decide +kernel
set_option maxRecDepth 20000 in
theorem dX5_rowsAheadOf_58 : decode cX5_rowsAheadOf 58 = .ok (.iload 6, 2) := by decide +kernel
set_option maxRecDepth 20000 in
theorem dX5_rowsAheadOf_60 : decode cX5_rowsAheadOf 60 = .ok (.invokevirtual 48, 3) := by decide +kernel
set_option maxRecDepth 20000 in
theorem dX5_rowsAheadOf_63 : decode cX5_rowsAheadOf 63 = .ok (.ladd, 1) := by decide +kernel
set_option maxRecDepth 20000 in
theorem dX5_rowsAheadOf_64 : decode cX5_rowsAheadOf 64 = .ok (.lstore_n 2, 1) := by decide +kernel
set_option maxRecDepth 20000 in
theorem dX5_rowsAheadOf_65 : decode cX5_rowsAheadOf 65 = .ok (.iinc 6 1, 3) := by decide +kernel
set_option maxRecDepth 20000 in
theorem dX5_rowsAheadOf_68 : decode cX5_rowsAheadOf 68 = .ok (.iinc 7 1, 3) := by decide +kernel
set_option maxRecDepth 20000 in
theorem dX5_rowsAheadOf_71 : decode cX5_rowsAheadOf 71 = .ok (.goto (-43), 3) := by decide +kernel
set_option maxRecDepth 20000 in
theorem dX5_rowsAheadOf_74 : decode cX5_rowsAheadOf 74 = .ok (.aload_n 0, 1) := by decide +kernel
set_option maxRecDepth 20000 in
theorem dX5_rowsAheadOf_75 : decode cX5_rowsAheadOf 75 = .ok (.iload 5, 2) := by decide +kernel
set_option maxRecDepth 20000 in
theorem dX5_rowsAheadOf_77 : decode cX5_rowsAheadOf 77 = .ok (.invokevirtual 58, 3) := by decide +kernel
set_option maxRecDepth 20000 in
theorem dX5_rowsAheadOf_80 : decode cX5_rowsAheadOf 80 = .ok (.iinc 4 1, 3) := by decide +kernel
set_option maxRecDepth 20000 in
theorem dX5_rowsAheadOf_83 : decode cX5_rowsAheadOf 83 = .ok (.goto (-78), 3) := by decide +kernel
set_option maxRecDepth 20000 in
theorem dX5_rowsAheadOf_86 : decode cX5_rowsAheadOf 86 = .ok (.lload_n 2, 1) := by decide +kernel
set_option maxRecDepth 20000 in
theorem dX5_rowsAheadOf_87 : decode cX5_rowsAheadOf 87 = .ok (.lreturn, 1) := by decide +kernel
set_option maxRecDepth 20000 in
theorem dX5_waysWith_0 : decode cX5_waysWith 0 = .ok (.aload_n 0, 1) := by decide +kernel
set_option maxRecDepth 20000 in
theorem dX5_waysWith_1 : decode cX5_waysWith 1 = .ok (.aload_n 0, 1) := by decide +kernel
set_option maxRecDepth 20000 in
theorem dX5_waysWith_2 : decode cX5_waysWith 2 = .ok (.getfield 35, 3) := by decide +kernel
set_option maxRecDepth 20000 in
theorem dX5_waysWith_5 : decode cX5_waysWith 5 = .ok (.iconst 1, 1) := by decide +kernel
set_option maxRecDepth 20000 in
theorem dX5_waysWith_6 : decode cX5_waysWith 6 = .ok (.isub, 1) := by decide +kernel
set_option maxRecDepth 20000 in
theorem dX5_waysWith_7 : decode cX5_waysWith 7 = .ok (.iload_n 2, 1) := by decide +kernel
set_option maxRecDepth 20000 in
theorem dX5_waysWith_8 : decode cX5_waysWith 8 = .ok (.aload_n 0, 1) := by decide +kernel
set_option maxRecDepth 20000 in
theorem dX5_waysWith_9 : decode cX5_waysWith 9 = .ok (.getfield 29, 3) := by decide +kernel
set_option maxRecDepth 20000 in
theorem dX5_waysWith_12 : decode cX5_waysWith 12 = .ok (.iconst 1, 1) := by decide +kernel
set_option maxRecDepth 20000 in
theorem dX5_waysWith_13 : decode cX5_waysWith 13 = .ok (.isub, 1) := by decide +kernel
set_option maxRecDepth 20000 in
theorem dX5_waysWith_14 : decode cX5_waysWith 14 = .ok (.aload_n 0, 1) := by decide +kernel
set_option maxRecDepth 20000 in
theorem dX5_waysWith_15 : decode cX5_waysWith 15 = .ok (.getfield 41, 3) := by decide +kernel
set_option maxRecDepth 20000 in
theorem dX5_waysWith_18 : decode cX5_waysWith 18 = .ok (.iload_n 1, 1) := by decide +kernel
set_option maxRecDepth 20000 in
theorem dX5_waysWith_19 : decode cX5_waysWith 19 = .ok (.invokestatic 69, 3) := by decide +kernel
set_option maxRecDepth 20000 in
theorem dX5_waysWith_22 : decode cX5_waysWith 22 = .ok (.isub, 1) := by decide +kernel
set_option maxRecDepth 20000 in
theorem dX5_waysWith_23 : decode cX5_waysWith 23 = .ok (.aload_n 0, 1) := by decide +kernel
set_option maxRecDepth 20000 in
theorem dX5_waysWith_24 : decode cX5_waysWith 24 = .ok (.iload_n 1, 1) := by decide +kernel
set_option maxRecDepth 20000 in
theorem dX5_waysWith_25 : decode cX5_waysWith 25 = .ok (.invokevirtual 72, 3) := by decide +kernel
set_option maxRecDepth 20000 in
theorem dX5_waysWith_28 : decode cX5_waysWith 28 = .ok (.invokevirtual 44, 3) := by decide +kernel
set_option maxRecDepth 20000 in
theorem dX5_waysWith_31 : decode cX5_waysWith 31 = .ok (.lreturn, 1) := by decide +kernel
set_option maxRecDepth 20000 in
theorem dX5_ways_0 : decode cX5_ways 0 = .ok (.aload_n 0, 1) := by decide +kernel
set_option maxRecDepth 20000 in
theorem dX5_ways_1 : decode cX5_ways 1 = .ok (.getfield 19, 3) := by decide +kernel
set_option maxRecDepth 20000 in
theorem dX5_ways_4 : decode cX5_ways 4 = .ok (.lookupswitch 52 #[(1, 28), (2, 40)], 28) := by decide +kernel
set_option maxRecDepth 20000 in
theorem dX5_ways_32 : decode cX5_ways 32 = .ok (.aload_n 0, 1) := by decide +kernel
set_option maxRecDepth 20000 in
theorem dX5_ways_33 : decode cX5_ways 33 = .ok (.getfield 15, 3) := by decide +kernel
set_option maxRecDepth 20000 in
theorem dX5_ways_36 : decode cX5_ways 36 = .ok (.iload_n 1, 1) := by decide +kernel
set_option maxRecDepth 20000 in
theorem dX5_ways_37 : decode cX5_ways 37 = .ok (.iload_n 3, 1) := by decide +kernel
set_option maxRecDepth 20000 in
theorem dX5_ways_38 : decode cX5_ways 38 = .ok (.iload 4, 2) := by decide +kernel
set_option maxRecDepth 20000 in
theorem dX5_ways_40 : decode cX5_ways 40 = .ok (.invokevirtual 75, 3) := by decide +kernel
set_option maxRecDepth 20000 in
theorem dX5_ways_43 : decode cX5_ways 43 = .ok (.lreturn, 1) := by decide +kernel
set_option maxRecDepth 20000 in
theorem dX5_ways_44 : decode cX5_ways 44 = .ok (.aload_n 0, 1) := by decide +kernel
set_option maxRecDepth 20000 in
theorem dX5_ways_45 : decode cX5_ways 45 = .ok (.getfield 15, 3) := by decide +kernel
set_option maxRecDepth 20000 in
theorem dX5_ways_48 : decode cX5_ways 48 = .ok (.iload_n 1, 1) := by decide +kernel
set_option maxRecDepth 20000 in
theorem dX5_ways_49 : decode cX5_ways 49 = .ok (.iload_n 2, 1) := by decide +kernel
set_option maxRecDepth 20000 in
theorem dX5_ways_50 : decode cX5_ways 50 = .ok (.iload 4, 2) := by decide +kernel
set_option maxRecDepth 20000 in
theorem dX5_ways_52 : decode cX5_ways 52 = .ok (.invokevirtual 81, 3) := by decide +kernel
set_option maxRecDepth 20000 in
theorem dX5_ways_55 : decode cX5_ways 55 = .ok (.lreturn, 1) := by decide +kernel
set_option maxRecDepth 20000 in
theorem dX5_ways_56 : decode cX5_ways 56 = .ok (.aload_n 0, 1) := by decide +kernel
set_option maxRecDepth 20000 in
theorem dX5_ways_57 : decode cX5_ways 57 = .ok (.getfield 15, 3) := by decide +kernel
set_option maxRecDepth 20000 in
theorem dX5_ways_60 : decode cX5_ways 60 = .ok (.iload_n 1, 1) := by decide +kernel
set_option maxRecDepth 20000 in
theorem dX5_ways_61 : decode cX5_ways 61 = .ok (.invokevirtual 84, 3) := by decide +kernel
set_option maxRecDepth 20000 in
theorem dX5_ways_64 : decode cX5_ways 64 = .ok (.lreturn, 1) := by decide +kernel
set_option maxRecDepth 20000 in
theorem dX5_wantedAfter_0 : decode cX5_wantedAfter 0 = .ok (.aload_n 0, 1) := by decide +kernel
set_option maxRecDepth 20000 in
theorem dX5_wantedAfter_1 : decode cX5_wantedAfter 1 = .ok (.getfield 19, 3) := by decide +kernel
set_option maxRecDepth 20000 in
theorem dX5_wantedAfter_4 : decode cX5_wantedAfter 4 = .ok (.iconst 1, 1) := by decide +kernel
set_option maxRecDepth 20000 in
theorem dX5_wantedAfter_5 : decode cX5_wantedAfter 5 = .ok (.if_icmp .ne 19, 3) := by decide +kernel
set_option maxRecDepth 20000 in
theorem dX5_wantedAfter_8 : decode cX5_wantedAfter 8 = .ok (.iload_n 1, 1) := by decide +kernel
set_option maxRecDepth 20000 in
theorem dX5_wantedAfter_9 : decode cX5_wantedAfter 9 = .ok (.aload_n 0, 1) := by decide +kernel
set_option maxRecDepth 20000 in
theorem dX5_wantedAfter_10 : decode cX5_wantedAfter 10 = .ok (.getfield 41, 3) := by decide +kernel
set_option maxRecDepth 20000 in
theorem dX5_wantedAfter_13 : decode cX5_wantedAfter 13 = .ok (.if_icmp .le 7, 3) := by decide +kernel
set_option maxRecDepth 20000 in
theorem dX5_wantedAfter_16 : decode cX5_wantedAfter 16 = .ok (.iconst 1, 1) := by decide +kernel
set_option maxRecDepth 20000 in
theorem dX5_wantedAfter_17 : decode cX5_wantedAfter 17 = .ok (.goto 28, 3) := by decide +kernel
set_option maxRecDepth 20000 in
theorem dX5_wantedAfter_20 : decode cX5_wantedAfter 20 = .ok (.iconst 0, 1) := by decide +kernel
set_option maxRecDepth 20000 in
theorem dX5_wantedAfter_21 : decode cX5_wantedAfter 21 = .ok (.goto 24, 3) := by decide +kernel
set_option maxRecDepth 20000 in
theorem dX5_wantedAfter_24 : decode cX5_wantedAfter 24 = .ok (.aload_n 0, 1) := by decide +kernel
set_option maxRecDepth 20000 in
theorem dX5_wantedAfter_25 : decode cX5_wantedAfter 25 = .ok (.getfield 19, 3) := by decide +kernel
set_option maxRecDepth 20000 in
theorem dX5_wantedAfter_28 : decode cX5_wantedAfter 28 = .ok (.iconst 2, 1) := by decide +kernel
set_option maxRecDepth 20000 in
theorem dX5_wantedAfter_29 : decode cX5_wantedAfter 29 = .ok (.if_icmp .ne 15, 3) := by decide +kernel
set_option maxRecDepth 20000 in
theorem dX5_wantedAfter_32 : decode cX5_wantedAfter 32 = .ok (.iload_n 1, 1) := by decide +kernel
set_option maxRecDepth 20000 in
theorem dX5_wantedAfter_33 : decode cX5_wantedAfter 33 = .ok (.aload_n 0, 1) := by decide +kernel
set_option maxRecDepth 20000 in
theorem dX5_wantedAfter_34 : decode cX5_wantedAfter 34 = .ok (.getfield 38, 3) := by decide +kernel
set_option maxRecDepth 20000 in
theorem dX5_wantedAfter_37 : decode cX5_wantedAfter 37 = .ok (.if_icmp .le 7, 3) := by decide +kernel
set_option maxRecDepth 20000 in
theorem dX5_wantedAfter_40 : decode cX5_wantedAfter 40 = .ok (.iconst 1, 1) := by decide +kernel
set_option maxRecDepth 20000 in
theorem dX5_wantedAfter_41 : decode cX5_wantedAfter 41 = .ok (.goto 4, 3) := by decide +kernel
set_option maxRecDepth 20000 in
theorem dX5_wantedAfter_44 : decode cX5_wantedAfter 44 = .ok (.iconst 0, 1) := by decide +kernel
set_option maxRecDepth 20000 in
theorem dX5_wantedAfter_45 : decode cX5_wantedAfter 45 = .ok (.istore_n 2, 1) := by decide +kernel
set_option maxRecDepth 20000 in
theorem dX5_wantedAfter_46 : decode cX5_wantedAfter 46 = .ok (.iload_n 2, 1) := by decide +kernel
set_option maxRecDepth 20000 in
theorem dX5_wantedAfter_47 : decode cX5_wantedAfter 47 = .ok (.ifCond .eq 12, 3) := by decide +kernel
set_option maxRecDepth 20000 in
theorem dX5_wantedAfter_50 : decode cX5_wantedAfter 50 = .ok (.aload_n 0, 1) := by decide +kernel
set_option maxRecDepth 20000 in
theorem dX5_wantedAfter_51 : decode cX5_wantedAfter 51 = .ok (.getfield 32, 3) := by decide +kernel
set_option maxRecDepth 20000 in
theorem dX5_wantedAfter_54 : decode cX5_wantedAfter 54 = .ok (.iconst 1, 1) := by decide +kernel
set_option maxRecDepth 20000 in
theorem dX5_wantedAfter_55 : decode cX5_wantedAfter 55 = .ok (.isub, 1) := by decide +kernel
set_option maxRecDepth 20000 in
theorem dX5_wantedAfter_56 : decode cX5_wantedAfter 56 = .ok (.goto 7, 3) := by decide +kernel
set_option maxRecDepth 20000 in
theorem dX5_wantedAfter_59 : decode cX5_wantedAfter 59 = .ok (.aload_n 0, 1) := by decide +kernel
set_option maxRecDepth 20000 in
theorem dX5_wantedAfter_60 : decode cX5_wantedAfter 60 = .ok (.getfield 32, 3) := by decide +kernel
set_option maxRecDepth 20000 in
theorem dX5_wantedAfter_63 : decode cX5_wantedAfter 63 = .ok (.ireturn, 1) := by decide +kernel
set_option maxRecDepth 20000 in
theorem dX5_step_0 : decode cX5_step 0 = .ok (.aload_n 0, 1) := by decide +kernel
set_option maxRecDepth 20000 in
theorem dX5_step_1 : decode cX5_step 1 = .ok (.aload_n 0, 1) := by decide +kernel
set_option maxRecDepth 20000 in
theorem dX5_step_2 : decode cX5_step 2 = .ok (.iload_n 1, 1) := by decide +kernel
set_option maxRecDepth 20000 in
theorem dX5_step_3 : decode cX5_step 3 = .ok (.invokevirtual 72, 3) := by decide +kernel
set_option maxRecDepth 20000 in
theorem dX5_step_6 : decode cX5_step 6 = .ok (.putfield 32, 3) := by decide +kernel
set_option maxRecDepth 20000 in
theorem dX5_step_9 : decode cX5_step 9 = .ok (.aload_n 0, 1) := by decide +kernel
set_option maxRecDepth 20000 in
theorem dX5_step_10 : decode cX5_step 10 = .ok (.iload_n 1, 1) := by decide +kernel
set_option maxRecDepth 20000 in
theorem dX5_step_11 : decode cX5_step 11 = .ok (.putfield 38, 3) := by decide +kernel
set_option maxRecDepth 20000 in
theorem dX5_step_14 : decode cX5_step 14 = .ok (.aload_n 0, 1) := by decide +kernel
set_option maxRecDepth 20000 in
theorem dX5_step_15 : decode cX5_step 15 = .ok (.aload_n 0, 1) := by decide +kernel
set_option maxRecDepth 20000 in
theorem dX5_step_16 : decode cX5_step 16 = .ok (.getfield 41, 3) := by decide +kernel
set_option maxRecDepth 20000 in
theorem dX5_step_19 : decode cX5_step 19 = .ok (.iload_n 1, 1) := by decide +kernel
set_option maxRecDepth 20000 in
theorem dX5_step_20 : decode cX5_step 20 = .ok (.invokestatic 69, 3) := by decide +kernel
set_option maxRecDepth 20000 in
theorem dX5_step_23 : decode cX5_step 23 = .ok (.putfield 41, 3) := by decide +kernel
set_option maxRecDepth 20000 in
theorem dX5_step_26 : decode cX5_step 26 = .ok (.aload_n 0, 1) := by decide +kernel
set_option maxRecDepth 20000 in
theorem dX5_step_27 : decode cX5_step 27 = .ok (.dup, 1) := by decide +kernel
set_option maxRecDepth 20000 in
theorem dX5_step_28 : decode cX5_step 28 = .ok (.getfield 35, 3) := by decide +kernel
set_option maxRecDepth 20000 in
theorem dX5_step_31 : decode cX5_step 31 = .ok (.iconst 1, 1) := by decide +kernel
set_option maxRecDepth 20000 in
theorem dX5_step_32 : decode cX5_step 32 = .ok (.isub, 1) := by decide +kernel
set_option maxRecDepth 20000 in
theorem dX5_step_33 : decode cX5_step 33 = .ok (.putfield 35, 3) := by decide +kernel
set_option maxRecDepth 20000 in
theorem dX5_step_36 : decode cX5_step 36 = .ok (.iload_n 1, 1) := by decide +kernel
set_option maxRecDepth 20000 in
theorem dX5_step_37 : decode cX5_step 37 = .ok (.ifCond .lt 16, 3) := by decide +kernel
set_option maxRecDepth 20000 in
theorem dX5_step_40 : decode cX5_step 40 = .ok (.iload_n 1, 1) := by decide +kernel
set_option maxRecDepth 20000 in
theorem dX5_step_41 : decode cX5_step 41 = .ok (.bipush 18, 2) := by decide +kernel
set_option maxRecDepth 20000 in
theorem dX5_step_43 : decode cX5_step 43 = .ok (.if_icmp .ge 10, 3) := by decide +kernel
set_option maxRecDepth 20000 in
theorem dX5_step_46 : decode cX5_step 46 = .ok (.aload_n 0, 1) := by decide +kernel
set_option maxRecDepth 20000 in
theorem dX5_step_47 : decode cX5_step 47 = .ok (.getfield 9, 3) := by decide +kernel
set_option maxRecDepth 20000 in
theorem dX5_step_50 : decode cX5_step 50 = .ok (.iload_n 1, 1) := by decide +kernel
set_option maxRecDepth 20000 in
theorem dX5_step_51 : decode cX5_step 51 = .ok (.iconst 1, 1) := by decide +kernel
set_option maxRecDepth 20000 in
theorem dX5_step_52 : decode cX5_step 52 = .ok (.bastore, 1) := by decide +kernel
set_option maxRecDepth 20000 in
theorem dX5_step_53 : decode cX5_step 53 = .ok (.return_, 1) := by decide +kernel
set_option maxRecDepth 20000 in
theorem dX6_init_0 : decode cX6_init 0 = .ok (.aload_n 0, 1) := by decide +kernel
set_option maxRecDepth 20000 in
theorem dX6_init_1 : decode cX6_init 1 = .ok (.invokespecial 1, 3) := by decide +kernel
set_option maxRecDepth 20000 in
theorem dX6_init_4 : decode cX6_init 4 = .ok (.aload_n 0, 1) := by decide +kernel
set_option maxRecDepth 20000 in
theorem dX6_init_5 : decode cX6_init 5 = .ok (.new 7, 3) := by decide +kernel
set_option maxRecDepth 20000 in
theorem dX6_init_8 : decode cX6_init 8 = .ok (.dup, 1) := by decide +kernel
set_option maxRecDepth 20000 in
theorem dX6_init_9 : decode cX6_init 9 = .ok (.invokespecial 9, 3) := by decide +kernel
set_option maxRecDepth 20000 in
theorem dX6_init_12 : decode cX6_init 12 = .ok (.putfield 10, 3) := by decide +kernel
set_option maxRecDepth 20000 in
theorem dX6_init_15 : decode cX6_init 15 = .ok (.aload_n 0, 1) := by decide +kernel
set_option maxRecDepth 20000 in
theorem dX6_init_16 : decode cX6_init 16 = .ok (.iconst 4, 1) := by decide +kernel
set_option maxRecDepth 20000 in
theorem dX6_init_17 : decode cX6_init 17 = .ok (.anewarray 7, 3) := by decide +kernel
set_option maxRecDepth 20000 in
theorem dX6_init_20 : decode cX6_init 20 = .ok (.putfield 16, 3) := by decide +kernel
set_option maxRecDepth 20000 in
theorem dX6_init_23 : decode cX6_init 23 = .ok (.aload_n 0, 1) := by decide +kernel
set_option maxRecDepth 20000 in
theorem dX6_init_24 : decode cX6_init 24 = .ok (.new 20, 3) := by decide +kernel
set_option maxRecDepth 20000 in
theorem dX6_init_27 : decode cX6_init 27 = .ok (.dup, 1) := by decide +kernel
set_option maxRecDepth 20000 in
theorem dX6_init_28 : decode cX6_init 28 = .ok (.invokespecial 22, 3) := by decide +kernel
set_option maxRecDepth 20000 in
theorem dX6_init_31 : decode cX6_init 31 = .ok (.putfield 23, 3) := by decide +kernel
set_option maxRecDepth 20000 in
theorem dX6_init_34 : decode cX6_init 34 = .ok (.aload_n 0, 1) := by decide +kernel
set_option maxRecDepth 20000 in
theorem dX6_init_35 : decode cX6_init 35 = .ok (.new 27, 3) := by decide +kernel
set_option maxRecDepth 20000 in
theorem dX6_init_38 : decode cX6_init 38 = .ok (.dup, 1) := by decide +kernel
set_option maxRecDepth 20000 in
theorem dX6_init_39 : decode cX6_init 39 = .ok (.invokespecial 29, 3) := by decide +kernel
set_option maxRecDepth 20000 in
theorem dX6_init_42 : decode cX6_init 42 = .ok (.putfield 30, 3) := by decide +kernel
set_option maxRecDepth 20000 in
theorem dX6_init_45 : decode cX6_init 45 = .ok (.aload_n 0, 1) := by decide +kernel
set_option maxRecDepth 20000 in
theorem dX6_init_46 : decode cX6_init 46 = .ok (.new 34, 3) := by decide +kernel
set_option maxRecDepth 20000 in
theorem dX6_init_49 : decode cX6_init 49 = .ok (.dup, 1) := by decide +kernel
set_option maxRecDepth 20000 in
theorem dX6_init_50 : decode cX6_init 50 = .ok (.aload_n 0, 1) := by decide +kernel
set_option maxRecDepth 20000 in
theorem dX6_init_51 : decode cX6_init 51 = .ok (.getfield 30, 3) := by decide +kernel
set_option maxRecDepth 20000 in
theorem dX6_init_54 : decode cX6_init 54 = .ok (.invokespecial 36, 3) := by decide +kernel
set_option maxRecDepth 20000 in
theorem dX6_init_57 : decode cX6_init 57 = .ok (.putfield 39, 3) := by decide +kernel
set_option maxRecDepth 20000 in
theorem dX6_init_60 : decode cX6_init 60 = .ok (.aload_n 0, 1) := by decide +kernel
set_option maxRecDepth 20000 in
theorem dX6_init_61 : decode cX6_init 61 = .ok (.sipush 152, 3) := by decide +kernel
set_option maxRecDepth 20000 in
theorem dX6_init_64 : decode cX6_init 64 = .ok (.anewarray 43, 3) := by decide +kernel
set_option maxRecDepth 20000 in
theorem dX6_init_67 : decode cX6_init 67 = .ok (.putfield 45, 3) := by decide +kernel
set_option maxRecDepth 20000 in
theorem dX6_init_70 : decode cX6_init 70 = .ok (.iconst 0, 1) := by decide +kernel
set_option maxRecDepth 20000 in
theorem dX6_init_71 : decode cX6_init 71 = .ok (.istore_n 1, 1) := by decide +kernel
set_option maxRecDepth 20000 in
theorem dX6_init_72 : decode cX6_init 72 = .ok (.iload_n 1, 1) := by decide +kernel
set_option maxRecDepth 20000 in
theorem dX6_init_73 : decode cX6_init 73 = .ok (.iconst 4, 1) := by decide +kernel
set_option maxRecDepth 20000 in
theorem dX6_init_74 : decode cX6_init 74 = .ok (.if_icmp .ge 22, 3) := by decide +kernel
set_option maxRecDepth 20000 in
theorem dX6_init_77 : decode cX6_init 77 = .ok (.aload_n 0, 1) := by decide +kernel
set_option maxRecDepth 20000 in
theorem dX6_init_78 : decode cX6_init 78 = .ok (.getfield 16, 3) := by decide +kernel
set_option maxRecDepth 20000 in
theorem dX6_init_81 : decode cX6_init 81 = .ok (.iload_n 1, 1) := by decide +kernel
set_option maxRecDepth 20000 in
theorem dX6_init_82 : decode cX6_init 82 = .ok (.new 7, 3) := by decide +kernel
set_option maxRecDepth 20000 in
theorem dX6_init_85 : decode cX6_init 85 = .ok (.dup, 1) := by decide +kernel
set_option maxRecDepth 20000 in
theorem dX6_init_86 : decode cX6_init 86 = .ok (.invokespecial 9, 3) := by decide +kernel
set_option maxRecDepth 20000 in
theorem dX6_init_89 : decode cX6_init 89 = .ok (.aastore, 1) := by decide +kernel
set_option maxRecDepth 20000 in
theorem dX6_init_90 : decode cX6_init 90 = .ok (.iinc 1 1, 3) := by decide +kernel
set_option maxRecDepth 20000 in
theorem dX6_init_93 : decode cX6_init 93 = .ok (.goto (-21), 3) := by decide +kernel
set_option maxRecDepth 20000 in
theorem dX6_init_96 : decode cX6_init 96 = .ok (.aload_n 0, 1) := by decide +kernel
set_option maxRecDepth 20000 in
theorem dX6_init_97 : decode cX6_init 97 = .ok (.iconst 4, 1) := by decide +kernel
set_option maxRecDepth 20000 in
theorem dX6_init_98 : decode cX6_init 98 = .ok (.invokevirtual 49, 3) := by decide +kernel
set_option maxRecDepth 20000 in
theorem dX6_init_101 : decode cX6_init 101 = .ok (.return_, 1) := by decide +kernel
set_option maxRecDepth 20000 in
theorem dX6_things_0 : decode cX6_things 0 = .ok (.iload_n 1, 1) := by decide +kernel
set_option maxRecDepth 20000 in
theorem dX6_things_1 : decode cX6_things 1 = .ok (.iconst 1, 1) := by decide +kernel
set_option maxRecDepth 20000 in
theorem dX6_things_2 : decode cX6_things 2 = .ok (.if_icmp .lt 9, 3) := by decide +kernel
set_option maxRecDepth 20000 in
theorem dX6_things_5 : decode cX6_things 5 = .ok (.iload_n 1, 1) := by decide +kernel
set_option maxRecDepth 20000 in
theorem dX6_things_6 : decode cX6_things 6 = .ok (.bipush 18, 2) := by decide +kernel
set_option maxRecDepth 20000 in
theorem dX6_things_8 : decode cX6_things 8 = .ok (.if_icmp .le 6, 3) := by decide +kernel
set_option maxRecDepth 20000 in
theorem dX6_things_11 : decode cX6_things 11 = .ok (.bipush (-2), 2) := by decide +kernel
set_option maxRecDepth 20000 in
theorem dX6_things_13 : decode cX6_things 13 = .ok (.ireturn, 1) := by decide +kernel
set_option maxRecDepth 20000 in
theorem dX6_things_14 : decode cX6_things 14 = .ok (.aload_n 0, 1) := by decide +kernel
set_option maxRecDepth 20000 in
theorem dX6_things_15 : decode cX6_things 15 = .ok (.iload_n 1, 1) := by decide +kernel
set_option maxRecDepth 20000 in
theorem dX6_things_16 : decode cX6_things 16 = .ok (.invokevirtual 49, 3) := by decide +kernel
set_option maxRecDepth 20000 in
theorem dX6_things_19 : decode cX6_things 19 = .ok (.iconst 1, 1) := by decide +kernel
set_option maxRecDepth 20000 in
theorem dX6_things_20 : decode cX6_things 20 = .ok (.ireturn, 1) := by decide +kernel
set_option maxRecDepth 20000 in
theorem dX6_order_0 : decode cX6_order 0 = .ok (.aload_n 0, 1) := by decide +kernel
set_option maxRecDepth 20000 in
theorem dX6_order_1 : decode cX6_order 1 = .ok (.getfield 10, 3) := by decide +kernel
set_option maxRecDepth 20000 in
theorem dX6_order_4 : decode cX6_order 4 = .ok (.lload_n 1, 1) := by decide +kernel
set_option maxRecDepth 20000 in
theorem dX6_order_5 : decode cX6_order 5 = .ok (.lload_n 3, 1) := by decide +kernel
set_option maxRecDepth 20000 in
theorem dX6_order_6 : decode cX6_order 6 = .ok (.invokevirtual 53, 3) := by decide +kernel
set_option maxRecDepth 20000 in
theorem dX6_order_9 : decode cX6_order 9 = .ok (.ifCond .eq 7, 3) := by decide +kernel
set_option maxRecDepth 20000 in
theorem dX6_order_12 : decode cX6_order 12 = .ok (.iconst 1, 1) := by decide +kernel
set_option maxRecDepth 20000 in
theorem dX6_order_13 : decode cX6_order 13 = .ok (.goto 5, 3) := by decide +kernel
set_option maxRecDepth 20000 in
theorem dX6_order_16 : decode cX6_order 16 = .ok (.bipush (-2), 2) := by decide +kernel
set_option maxRecDepth 20000 in
theorem dX6_order_18 : decode cX6_order 18 = .ok (.ireturn, 1) := by decide +kernel
set_option maxRecDepth 20000 in
theorem dX6_at_0 : decode cX6_at 0 = .ok (.aload_n 0, 1) := by decide +kernel
set_option maxRecDepth 20000 in
theorem dX6_at_1 : decode cX6_at 1 = .ok (.iload_n 1, 1) := by decide +kernel
set_option maxRecDepth 20000 in
theorem dX6_at_2 : decode cX6_at 2 = .ok (.invokevirtual 57, 3) := by decide +kernel
set_option maxRecDepth 20000 in
theorem dX6_at_5 : decode cX6_at 5 = .ok (.ifCond .eq 14, 3) := by decide +kernel
set_option maxRecDepth 20000 in
theorem dX6_at_8 : decode cX6_at 8 = .ok (.aload_n 0, 1) := by decide +kernel
set_option maxRecDepth 20000 in
theorem dX6_at_9 : decode cX6_at 9 = .ok (.getfield 10, 3) := by decide +kernel
set_option maxRecDepth 20000 in
theorem dX6_at_12 : decode cX6_at 12 = .ok (.iload_n 1, 1) := by decide +kernel
set_option maxRecDepth 20000 in
theorem dX6_at_13 : decode cX6_at 13 = .ok (.invokevirtual 61, 3) := by decide +kernel
set_option maxRecDepth 20000 in
theorem dX6_at_16 : decode cX6_at 16 = .ok (.goto 5, 3) := by decide +kernel
set_option maxRecDepth 20000 in
theorem dX6_at_19 : decode cX6_at 19 = .ok (.bipush (-2), 2) := by decide +kernel
set_option maxRecDepth 20000 in
theorem dX6_at_21 : decode cX6_at 21 = .ok (.ireturn, 1) := by decide +kernel
set_option maxRecDepth 20000 in
theorem dX6_swap_0 : decode cX6_swap 0 = .ok (.aload_n 0, 1) := by decide +kernel
set_option maxRecDepth 20000 in
theorem dX6_swap_1 : decode cX6_swap 1 = .ok (.iload_n 1, 1) := by decide +kernel
set_option maxRecDepth 20000 in
theorem dX6_swap_2 : decode cX6_swap 2 = .ok (.invokevirtual 57, 3) := by decide +kernel
set_option maxRecDepth 20000 in
theorem dX6_swap_5 : decode cX6_swap 5 = .ok (.ifCond .eq 11, 3) := by decide +kernel
set_option maxRecDepth 20000 in
theorem dX6_swap_8 : decode cX6_swap 8 = .ok (.aload_n 0, 1) := by decide +kernel
set_option maxRecDepth 20000 in
theorem dX6_swap_9 : decode cX6_swap 9 = .ok (.iload_n 2, 1) := by decide +kernel
set_option maxRecDepth 20000 in
theorem dX6_swap_10 : decode cX6_swap 10 = .ok (.invokevirtual 57, 3) := by decide +kernel
set_option maxRecDepth 20000 in
theorem dX6_swap_13 : decode cX6_swap 13 = .ok (.ifCond .ne 6, 3) := by decide +kernel
set_option maxRecDepth 20000 in
theorem dX6_swap_16 : decode cX6_swap 16 = .ok (.bipush (-2), 2) := by decide +kernel
set_option maxRecDepth 20000 in
theorem dX6_swap_18 : decode cX6_swap 18 = .ok (.ireturn, 1) := by decide +kernel
set_option maxRecDepth 20000 in
theorem dX6_swap_19 : decode cX6_swap 19 = .ok (.aload_n 0, 1) := by decide +kernel
set_option maxRecDepth 20000 in
theorem dX6_swap_20 : decode cX6_swap 20 = .ok (.getfield 10, 3) := by decide +kernel
set_option maxRecDepth 20000 in
theorem dX6_swap_23 : decode cX6_swap 23 = .ok (.iload_n 1, 1) := by decide +kernel
set_option maxRecDepth 20000 in
theorem dX6_swap_24 : decode cX6_swap 24 = .ok (.iload_n 2, 1) := by decide +kernel
set_option maxRecDepth 20000 in
theorem dX6_swap_25 : decode cX6_swap 25 = .ok (.invokevirtual 65, 3) := by decide +kernel
set_option maxRecDepth 20000 in
theorem dX6_swap_28 : decode cX6_swap 28 = .ok (.iconst 1, 1) := by decide +kernel
set_option maxRecDepth 20000 in
theorem dX6_swap_29 : decode cX6_swap 29 = .ok (.ireturn, 1) := by decide +kernel
set_option maxRecDepth 20000 in
theorem dX6_lay_0 : decode cX6_lay 0 = .ok (.iload_n 1, 1) := by decide +kernel
set_option maxRecDepth 20000 in
theorem dX6_lay_1 : decode cX6_lay 1 = .ok (.invokestatic 69, 3) := by decide +kernel
set_option maxRecDepth 20000 in
theorem dX6_lay_4 : decode cX6_lay 4 = .ok (.ifCond .ne 6, 3) := by decide +kernel
set_option maxRecDepth 20000 in
theorem dX6_lay_7 : decode cX6_lay 7 = .ok (.bipush (-2), 2) := by decide +kernel
set_option maxRecDepth 20000 in
theorem dX6_lay_9 : decode cX6_lay 9 = .ok (.ireturn, 1) := by decide +kernel
set_option maxRecDepth 20000 in
theorem dX6_lay_10 : decode cX6_lay 10 = .ok (.aload_n 0, 1) := by decide +kernel
set_option maxRecDepth 20000 in
theorem dX6_lay_11 : decode cX6_lay 11 = .ok (.getfield 16, 3) := by decide +kernel
set_option maxRecDepth 20000 in
theorem dX6_lay_14 : decode cX6_lay 14 = .ok (.iload_n 1, 1) := by decide +kernel
set_option maxRecDepth 20000 in
theorem dX6_lay_15 : decode cX6_lay 15 = .ok (.aaload, 1) := by decide +kernel
set_option maxRecDepth 20000 in
theorem dX6_lay_16 : decode cX6_lay 16 = .ok (.aload_n 0, 1) := by decide +kernel
set_option maxRecDepth 20000 in
theorem dX6_lay_17 : decode cX6_lay 17 = .ok (.getfield 10, 3) := by decide +kernel
set_option maxRecDepth 20000 in
theorem dX6_lay_20 : decode cX6_lay 20 = .ok (.invokevirtual 72, 3) := by decide +kernel
set_option maxRecDepth 20000 in
theorem dX6_lay_23 : decode cX6_lay 23 = .ok (.iconst 1, 1) := by decide +kernel
set_option maxRecDepth 20000 in
theorem dX6_lay_24 : decode cX6_lay 24 = .ok (.ireturn, 1) := by decide +kernel
set_option maxRecDepth 20000 in
theorem dX6_take_0 : decode cX6_take 0 = .ok (.iload_n 1, 1) := by decide +kernel
set_option maxRecDepth 20000 in
theorem dX6_take_1 : decode cX6_take 1 = .ok (.invokestatic 69, 3) := by decide +kernel
set_option maxRecDepth 20000 in
theorem dX6_take_4 : decode cX6_take 4 = .ok (.ifCond .ne 6, 3) := by decide +kernel
set_option maxRecDepth 20000 in
theorem dX6_take_7 : decode cX6_take 7 = .ok (.bipush (-2), 2) := by decide +kernel
set_option maxRecDepth 20000 in
theorem dX6_take_9 : decode cX6_take 9 = .ok (.ireturn, 1) := by decide +kernel
set_option maxRecDepth 20000 in
theorem dX6_take_10 : decode cX6_take 10 = .ok (.aload_n 0, 1) := by decide +kernel
set_option maxRecDepth 20000 in
theorem dX6_take_11 : decode cX6_take 11 = .ok (.getfield 10, 3) := by decide +kernel
set_option maxRecDepth 20000 in
theorem dX6_take_14 : decode cX6_take 14 = .ok (.aload_n 0, 1) := by decide +kernel
set_option maxRecDepth 20000 in
theorem dX6_take_15 : decode cX6_take 15 = .ok (.getfield 16, 3) := by decide +kernel
set_option maxRecDepth 20000 in
theorem dX6_take_18 : decode cX6_take 18 = .ok (.iload_n 1, 1) := by decide +kernel
set_option maxRecDepth 20000 in
theorem dX6_take_19 : decode cX6_take 19 = .ok (.aaload, 1) := by decide +kernel
set_option maxRecDepth 20000 in
theorem dX6_take_20 : decode cX6_take 20 = .ok (.invokevirtual 72, 3) := by decide +kernel
set_option maxRecDepth 20000 in
theorem dX6_take_23 : decode cX6_take 23 = .ok (.iconst 1, 1) := by decide +kernel
set_option maxRecDepth 20000 in
theorem dX6_take_24 : decode cX6_take 24 = .ok (.ireturn, 1) := by decide +kernel
set_option maxRecDepth 20000 in
theorem dX6_then_0 : decode cX6_then 0 = .ok (.iload_n 1, 1) := by decide +kernel
set_option maxRecDepth 20000 in
theorem dX6_then_1 : decode cX6_then 1 = .ok (.invokestatic 69, 3) := by decide +kernel
set_option maxRecDepth 20000 in
theorem dX6_then_4 : decode cX6_then 4 = .ok (.ifCond .ne 6, 3) := by decide +kernel
set_option maxRecDepth 20000 in
theorem dX6_then_7 : decode cX6_then 7 = .ok (.bipush (-2), 2) := by decide +kernel
set_option maxRecDepth 20000 in
theorem dX6_then_9 : decode cX6_then 9 = .ok (.ireturn, 1) := by decide +kernel
set_option maxRecDepth 20000 in
theorem dX6_then_10 : decode cX6_then 10 = .ok (.aload_n 0, 1) := by decide +kernel
set_option maxRecDepth 20000 in
theorem dX6_then_11 : decode cX6_then 11 = .ok (.getfield 10, 3) := by decide +kernel
set_option maxRecDepth 20000 in
theorem dX6_then_14 : decode cX6_then 14 = .ok (.aload_n 0, 1) := by decide +kernel
set_option maxRecDepth 20000 in
theorem dX6_then_15 : decode cX6_then 15 = .ok (.getfield 16, 3) := by decide +kernel
set_option maxRecDepth 20000 in
theorem dX6_then_18 : decode cX6_then 18 = .ok (.iload_n 1, 1) := by decide +kernel
set_option maxRecDepth 20000 in
theorem dX6_then_19 : decode cX6_then 19 = .ok (.aaload, 1) := by decide +kernel
set_option maxRecDepth 20000 in
theorem dX6_then_20 : decode cX6_then 20 = .ok (.invokevirtual 76, 3) := by decide +kernel
set_option maxRecDepth 20000 in
theorem dX6_then_23 : decode cX6_then 23 = .ok (.iconst 1, 1) := by decide +kernel
set_option maxRecDepth 20000 in
theorem dX6_then_24 : decode cX6_then 24 = .ok (.ireturn, 1) := by decide +kernel
set_option maxRecDepth 20000 in
theorem dX6_back_0 : decode cX6_back 0 = .ok (.aload_n 0, 1) := by decide +kernel
set_option maxRecDepth 20000 in
theorem dX6_back_1 : decode cX6_back 1 = .ok (.getfield 10, 3) := by decide +kernel
set_option maxRecDepth 20000 in
theorem dX6_back_4 : decode cX6_back 4 = .ok (.invokevirtual 79, 3) := by decide +kernel
set_option maxRecDepth 20000 in
theorem dX6_back_7 : decode cX6_back 7 = .ok (.iconst 1, 1) := by decide +kernel
set_option maxRecDepth 20000 in
theorem dX6_back_8 : decode cX6_back 8 = .ok (.ireturn, 1) := by decide +kernel
set_option maxRecDepth 20000 in
theorem dX6_number_0 : decode cX6_number 0 = .ok (.iload_n 1, 1) := by decide +kernel
set_option maxRecDepth 20000 in
theorem dX6_number_1 : decode cX6_number 1 = .ok (.invokestatic 82, 3) := by decide +kernel
set_option maxRecDepth 20000 in
theorem dX6_number_4 : decode cX6_number 4 = .ok (.ifCond .eq 14, 3) := by decide +kernel
set_option maxRecDepth 20000 in
theorem dX6_number_7 : decode cX6_number 7 = .ok (.aload_n 0, 1) := by decide +kernel
set_option maxRecDepth 20000 in
theorem dX6_number_8 : decode cX6_number 8 = .ok (.getfield 10, 3) := by decide +kernel
set_option maxRecDepth 20000 in
theorem dX6_number_11 : decode cX6_number 11 = .ok (.iload_n 1, 1) := by decide +kernel
set_option maxRecDepth 20000 in
theorem dX6_number_12 : decode cX6_number 12 = .ok (.invokevirtual 85, 3) := by decide +kernel
set_option maxRecDepth 20000 in
theorem dX6_number_15 : decode cX6_number 15 = .ok (.goto 5, 3) := by decide +kernel
set_option maxRecDepth 20000 in
theorem dX6_number_18 : decode cX6_number 18 = .ok (.bipush (-2), 2) := by decide +kernel
set_option maxRecDepth 20000 in
theorem dX6_number_20 : decode cX6_number 20 = .ok (.ireturn, 1) := by decide +kernel
set_option maxRecDepth 20000 in
theorem dX6_many_0 : decode cX6_many 0 = .ok (.iload_n 1, 1) := by decide +kernel
set_option maxRecDepth 20000 in
theorem dX6_many_1 : decode cX6_many 1 = .ok (.invokestatic 82, 3) := by decide +kernel
set_option maxRecDepth 20000 in
theorem dX6_many_4 : decode cX6_many 4 = .ok (.ifCond .eq 15, 3) := by decide +kernel
set_option maxRecDepth 20000 in
theorem dX6_many_7 : decode cX6_many 7 = .ok (.aload_n 0, 1) := by decide +kernel
set_option maxRecDepth 20000 in
theorem dX6_many_8 : decode cX6_many 8 = .ok (.iload_n 1, 1) := by decide +kernel
set_option maxRecDepth 20000 in
theorem dX6_many_9 : decode cX6_many 9 = .ok (.invokevirtual 88, 3) := by decide +kernel
set_option maxRecDepth 20000 in
theorem dX6_many_12 : decode cX6_many 12 = .ok (.iload_n 2, 1) := by decide +kernel
set_option maxRecDepth 20000 in
theorem dX6_many_13 : decode cX6_many 13 = .ok (.invokevirtual 92, 3) := by decide +kernel
set_option maxRecDepth 20000 in
theorem dX6_many_16 : decode cX6_many 16 = .ok (.goto 6, 3) := by decide +kernel
set_option maxRecDepth 20000 in
theorem dX6_many_19 : decode cX6_many 19 = .ok (.ldc2_w 96, 3) := by decide +kernel
set_option maxRecDepth 20000 in
theorem dX6_many_22 : decode cX6_many 22 = .ok (.lreturn, 1) := by decide +kernel
set_option maxRecDepth 20000 in
theorem dX6_mean_0 : decode cX6_mean 0 = .ok (.iload_n 1, 1) := by decide +kernel
set_option maxRecDepth 20000 in
theorem dX6_mean_1 : decode cX6_mean 1 = .ok (.invokestatic 82, 3) := by decide +kernel
set_option maxRecDepth 20000 in
theorem dX6_mean_4 : decode cX6_mean 4 = .ok (.ifCond .eq 12, 3) := by decide +kernel
set_option maxRecDepth 20000 in
theorem dX6_mean_7 : decode cX6_mean 7 = .ok (.iload_n 2, 1) := by decide +kernel
set_option maxRecDepth 20000 in
theorem dX6_mean_8 : decode cX6_mean 8 = .ok (.ifCond .lt 8, 3) := by decide +kernel
set_option maxRecDepth 20000 in
theorem dX6_mean_11 : decode cX6_mean 11 = .ok (.iload_n 2, 1) := by decide +kernel
set_option maxRecDepth 20000 in
theorem dX6_mean_12 : decode cX6_mean 12 = .ok (.iconst 1, 1) := by decide +kernel
set_option maxRecDepth 20000 in
theorem dX6_mean_13 : decode cX6_mean 13 = .ok (.if_icmp .le 7, 3) := by decide +kernel
set_option maxRecDepth 20000 in
theorem dX6_mean_16 : decode cX6_mean 16 = .ok (.ldc2_w 96, 3) := by decide +kernel
set_option maxRecDepth 20000 in
theorem dX6_mean_19 : decode cX6_mean 19 = .ok (.lreturn, 1) := by decide +kernel
set_option maxRecDepth 20000 in
theorem dX6_mean_20 : decode cX6_mean 20 = .ok (.aload_n 0, 1) := by decide +kernel
set_option maxRecDepth 20000 in
theorem dX6_mean_21 : decode cX6_mean 21 = .ok (.iload_n 1, 1) := by decide +kernel
set_option maxRecDepth 20000 in
theorem dX6_mean_22 : decode cX6_mean 22 = .ok (.invokevirtual 88, 3) := by decide +kernel
set_option maxRecDepth 20000 in
theorem dX6_mean_25 : decode cX6_mean 25 = .ok (.invokevirtual 98, 3) := by decide +kernel
set_option maxRecDepth 20000 in
theorem dX6_mean_28 : decode cX6_mean 28 = .ok (.lstore_n 3, 1) := by decide +kernel
set_option maxRecDepth 20000 in
theorem dX6_mean_29 : decode cX6_mean 29 = .ok (.aload_n 0, 1) := by decide +kernel
set_option maxRecDepth 20000 in
theorem dX6_mean_30 : decode cX6_mean 30 = .ok (.getfield 30, 3) := by decide +kernel
set_option maxRecDepth 20000 in
theorem dX6_mean_33 : decode cX6_mean 33 = .ok (.aload_n 0, 1) := by decide +kernel
set_option maxRecDepth 20000 in
theorem dX6_mean_34 : decode cX6_mean 34 = .ok (.getfield 102, 3) := by decide +kernel
set_option maxRecDepth 20000 in
theorem dX6_mean_37 : decode cX6_mean 37 = .ok (.invokevirtual 106, 3) := by decide +kernel
set_option maxRecDepth 20000 in
theorem dX6_mean_40 : decode cX6_mean 40 = .ok (.lstore 5, 2) := by decide +kernel
set_option maxRecDepth 20000 in
theorem dX6_mean_42 : decode cX6_mean 42 = .ok (.iload_n 2, 1) := by decide +kernel
set_option maxRecDepth 20000 in
theorem dX6_mean_43 : decode cX6_mean 43 = .ok (.ifCond .ne 7, 3) := by decide +kernel
set_option maxRecDepth 20000 in
theorem dX6_mean_46 : decode cX6_mean 46 = .ok (.lload_n 3, 1) := by decide +kernel
set_option maxRecDepth 20000 in
theorem dX6_mean_47 : decode cX6_mean 47 = .ok (.goto 5, 3) := by decide +kernel
set_option maxRecDepth 20000 in
theorem dX6_mean_50 : decode cX6_mean 50 = .ok (.lload 5, 2) := by decide +kernel
set_option maxRecDepth 20000 in
theorem dX6_mean_52 : decode cX6_mean 52 = .ok (.lload_n 3, 1) := by decide +kernel
set_option maxRecDepth 20000 in
theorem dX6_mean_53 : decode cX6_mean 53 = .ok (.lload 5, 2) := by decide +kernel
set_option maxRecDepth 20000 in
theorem dX6_mean_55 : decode cX6_mean 55 = .ok (.invokestatic 109, 3) := by decide +kernel
set_option maxRecDepth 20000 in
theorem dX6_mean_58 : decode cX6_mean 58 = .ok (.invokestatic 113, 3) := by decide +kernel
set_option maxRecDepth 20000 in
theorem dX6_mean_61 : decode cX6_mean 61 = .ok (.lreturn, 1) := by decide +kernel
set_option maxRecDepth 20000 in
theorem dX6_row_0 : decode cX6_row 0 = .ok (.iload_n 1, 1) := by decide +kernel
set_option maxRecDepth 20000 in
theorem dX6_row_1 : decode cX6_row 1 = .ok (.invokestatic 116, 3) := by decide +kernel
set_option maxRecDepth 20000 in
theorem dX6_row_4 : decode cX6_row 4 = .ok (.ifCond .eq 9, 3) := by decide +kernel
set_option maxRecDepth 20000 in
theorem dX6_row_7 : decode cX6_row 7 = .ok (.lload_n 3, 1) := by decide +kernel
set_option maxRecDepth 20000 in
theorem dX6_row_8 : decode cX6_row 8 = .ok (.lconst 0, 1) := by decide +kernel
set_option maxRecDepth 20000 in
theorem dX6_row_9 : decode cX6_row 9 = .ok (.lcmp, 1) := by decide +kernel
set_option maxRecDepth 20000 in
theorem dX6_row_10 : decode cX6_row 10 = .ok (.ifCond .ge 6, 3) := by decide +kernel
set_option maxRecDepth 20000 in
theorem dX6_row_13 : decode cX6_row 13 = .ok (.bipush (-2), 2) := by decide +kernel
set_option maxRecDepth 20000 in
theorem dX6_row_15 : decode cX6_row 15 = .ok (.ireturn, 1) := by decide +kernel
set_option maxRecDepth 20000 in
theorem dX6_row_16 : decode cX6_row 16 = .ok (.aload_n 0, 1) := by decide +kernel
set_option maxRecDepth 20000 in
theorem dX6_row_17 : decode cX6_row 17 = .ok (.getfield 39, 3) := by decide +kernel
set_option maxRecDepth 20000 in
theorem dX6_row_20 : decode cX6_row 20 = .ok (.iload_n 1, 1) := by decide +kernel
set_option maxRecDepth 20000 in
theorem dX6_row_21 : decode cX6_row 21 = .ok (.aload_n 0, 1) := by decide +kernel
set_option maxRecDepth 20000 in
theorem dX6_row_22 : decode cX6_row 22 = .ok (.getfield 102, 3) := by decide +kernel
set_option maxRecDepth 20000 in
theorem dX6_row_25 : decode cX6_row 25 = .ok (.iload_n 2, 1) := by decide +kernel
set_option maxRecDepth 20000 in
theorem dX6_row_26 : decode cX6_row 26 = .ok (.invokevirtual 119, 3) := by decide +kernel
set_option maxRecDepth 20000 in
theorem dX6_row_29 : decode cX6_row 29 = .ok (.lload_n 3, 1) := by decide +kernel
set_option maxRecDepth 20000 in
theorem dX6_row_30 : decode cX6_row 30 = .ok (.aload_n 0, 1) := by decide +kernel
set_option maxRecDepth 20000 in
theorem dX6_row_31 : decode cX6_row 31 = .ok (.getfield 39, 3) := by decide +kernel
set_option maxRecDepth 20000 in
theorem dX6_row_34 : decode cX6_row 34 = .ok (.invokevirtual 123, 3) := by decide +kernel
set_option maxRecDepth 20000 in
theorem dX6_row_37 : decode cX6_row 37 = .ok (.lcmp, 1) := by decide +kernel
set_option maxRecDepth 20000 in
theorem dX6_row_38 : decode cX6_row 38 = .ok (.ifCond .lt 5, 3) := by decide +kernel
set_option maxRecDepth 20000 in
theorem dX6_row_41 : decode cX6_row 41 = .ok (.iconst (-1), 1) := by decide +kernel
set_option maxRecDepth 20000 in
theorem dX6_row_42 : decode cX6_row 42 = .ok (.ireturn, 1) := by decide +kernel
set_option maxRecDepth 20000 in
theorem dX6_row_43 : decode cX6_row 43 = .ok (.aload_n 0, 1) := by decide +kernel
set_option maxRecDepth 20000 in
theorem dX6_row_44 : decode cX6_row 44 = .ok (.getfield 39, 3) := by decide +kernel
set_option maxRecDepth 20000 in
theorem dX6_row_47 : decode cX6_row 47 = .ok (.lload_n 3, 1) := by decide +kernel
set_option maxRecDepth 20000 in
theorem dX6_row_48 : decode cX6_row 48 = .ok (.aload_n 0, 1) := by decide +kernel
set_option maxRecDepth 20000 in
theorem dX6_row_49 : decode cX6_row 49 = .ok (.getfield 10, 3) := by decide +kernel
set_option maxRecDepth 20000 in
theorem dX6_row_52 : decode cX6_row 52 = .ok (.invokevirtual 126, 3) := by decide +kernel
set_option maxRecDepth 20000 in
theorem dX6_row_55 : decode cX6_row 55 = .ok (.iconst 1, 1) := by decide +kernel
set_option maxRecDepth 20000 in
theorem dX6_row_56 : decode cX6_row 56 = .ok (.ireturn, 1) := by decide +kernel
set_option maxRecDepth 20000 in
theorem dX6_place_0 : decode cX6_place 0 = .ok (.iload_n 1, 1) := by decide +kernel
set_option maxRecDepth 20000 in
theorem dX6_place_1 : decode cX6_place 1 = .ok (.invokestatic 116, 3) := by decide +kernel
set_option maxRecDepth 20000 in
theorem dX6_place_4 : decode cX6_place 4 = .ok (.ifCond .ne 7, 3) := by decide +kernel
set_option maxRecDepth 20000 in
theorem dX6_place_7 : decode cX6_place 7 = .ok (.ldc2_w 96, 3) := by decide +kernel
set_option maxRecDepth 20000 in
theorem dX6_place_10 : decode cX6_place 10 = .ok (.lreturn, 1) := by decide +kernel
set_option maxRecDepth 20000 in
theorem dX6_place_11 : decode cX6_place 11 = .ok (.aload_n 0, 1) := by decide +kernel
set_option maxRecDepth 20000 in
theorem dX6_place_12 : decode cX6_place 12 = .ok (.getfield 39, 3) := by decide +kernel
set_option maxRecDepth 20000 in
theorem dX6_place_15 : decode cX6_place 15 = .ok (.iload_n 1, 1) := by decide +kernel
set_option maxRecDepth 20000 in
theorem dX6_place_16 : decode cX6_place 16 = .ok (.aload_n 0, 1) := by decide +kernel
set_option maxRecDepth 20000 in
theorem dX6_place_17 : decode cX6_place 17 = .ok (.getfield 102, 3) := by decide +kernel
set_option maxRecDepth 20000 in
theorem dX6_place_20 : decode cX6_place 20 = .ok (.iload_n 1, 1) := by decide +kernel
set_option maxRecDepth 20000 in
theorem dX6_place_21 : decode cX6_place 21 = .ok (.iconst (-1), 1) := by decide +kernel
set_option maxRecDepth 20000 in
theorem dX6_place_22 : decode cX6_place 22 = .ok (.if_icmp .ne 7, 3) := by decide +kernel
set_option maxRecDepth 20000 in
theorem dX6_place_25 : decode cX6_place 25 = .ok (.iconst 0, 1) := by decide +kernel
set_option maxRecDepth 20000 in
theorem dX6_place_26 : decode cX6_place 26 = .ok (.goto 11, 3) := by decide +kernel
set_option maxRecDepth 20000 in
theorem dX6_place_29 : decode cX6_place 29 = .ok (.aload_n 0, 1) := by decide +kernel
set_option maxRecDepth 20000 in
theorem dX6_place_30 : decode cX6_place 30 = .ok (.getfield 10, 3) := by decide +kernel
set_option maxRecDepth 20000 in
theorem dX6_place_33 : decode cX6_place 33 = .ok (.iload_n 1, 1) := by decide +kernel
set_option maxRecDepth 20000 in
theorem dX6_place_34 : decode cX6_place 34 = .ok (.invokevirtual 85, 3) := by decide +kernel
set_option maxRecDepth 20000 in
theorem dX6_place_37 : decode cX6_place 37 = .ok (.invokevirtual 119, 3) := by decide +kernel
set_option maxRecDepth 20000 in
theorem dX6_place_40 : decode cX6_place 40 = .ok (.aload_n 0, 1) := by decide +kernel
set_option maxRecDepth 20000 in
theorem dX6_place_41 : decode cX6_place 41 = .ok (.getfield 39, 3) := by decide +kernel
set_option maxRecDepth 20000 in
theorem dX6_place_44 : decode cX6_place 44 = .ok (.aload_n 0, 1) := by decide +kernel
set_option maxRecDepth 20000 in
theorem dX6_place_45 : decode cX6_place 45 = .ok (.getfield 10, 3) := by decide +kernel
set_option maxRecDepth 20000 in
theorem dX6_place_48 : decode cX6_place 48 = .ok (.invokevirtual 130, 3) := by decide +kernel
set_option maxRecDepth 20000 in
theorem dX6_place_51 : decode cX6_place 51 = .ok (.lreturn, 1) := by decide +kernel
set_option maxRecDepth 20000 in
theorem dX6_toRounds_0 : decode cX6_toRounds 0 = .ok (.aload_n 0, 1) := by decide +kernel
set_option maxRecDepth 20000 in
theorem dX6_toRounds_1 : decode cX6_toRounds 1 = .ok (.getfield 10, 3) := by decide +kernel
set_option maxRecDepth 20000 in
theorem dX6_toRounds_4 : decode cX6_toRounds 4 = .ok (.invokevirtual 134, 3) := by decide +kernel
set_option maxRecDepth 20000 in
theorem dX6_toRounds_7 : decode cX6_toRounds 7 = .ok (.iconst 1, 1) := by decide +kernel
set_option maxRecDepth 20000 in
theorem dX6_toRounds_8 : decode cX6_toRounds 8 = .ok (.ireturn, 1) := by decide +kernel
set_option maxRecDepth 20000 in
theorem dX6_toRecords_0 : decode cX6_toRecords 0 = .ok (.aload_n 0, 1) := by decide +kernel
set_option maxRecDepth 20000 in
theorem dX6_toRecords_1 : decode cX6_toRecords 1 = .ok (.getfield 10, 3) := by decide +kernel
set_option maxRecDepth 20000 in
theorem dX6_toRecords_4 : decode cX6_toRecords 4 = .ok (.invokevirtual 137, 3) := by decide +kernel
set_option maxRecDepth 20000 in
theorem dX6_toRecords_7 : decode cX6_toRecords 7 = .ok (.iconst 1, 1) := by decide +kernel
set_option maxRecDepth 20000 in
theorem dX6_toRecords_8 : decode cX6_toRecords 8 = .ok (.ireturn, 1) := by decide +kernel
set_option maxRecDepth 20000 in
theorem dX6_opens_0 : decode cX6_opens 0 = .ok (.iload_n 1, 1) := by decide +kernel
set_option maxRecDepth 20000 in
theorem dX6_opens_1 : decode cX6_opens 1 = .ok (.iconst 1, 1) := by decide +kernel
set_option maxRecDepth 20000 in
theorem dX6_opens_2 : decode cX6_opens 2 = .ok (.if_icmp .lt 11, 3) := by decide +kernel
set_option maxRecDepth 20000 in
theorem dX6_opens_5 : decode cX6_opens 5 = .ok (.iload_n 1, 1) := by decide +kernel
set_option maxRecDepth 20000 in
theorem dX6_opens_6 : decode cX6_opens 6 = .ok (.aload_n 0, 1) := by decide +kernel
set_option maxRecDepth 20000 in
theorem dX6_opens_7 : decode cX6_opens 7 = .ok (.getfield 102, 3) := by decide +kernel
set_option maxRecDepth 20000 in
theorem dX6_opens_10 : decode cX6_opens 10 = .ok (.if_icmp .le 6, 3) := by decide +kernel
set_option maxRecDepth 20000 in
theorem dX6_opens_13 : decode cX6_opens 13 = .ok (.bipush (-2), 2) := by decide +kernel
set_option maxRecDepth 20000 in
theorem dX6_opens_15 : decode cX6_opens 15 = .ok (.ireturn, 1) := by decide +kernel
set_option maxRecDepth 20000 in
theorem dX6_opens_16 : decode cX6_opens 16 = .ok (.aload_n 0, 1) := by decide +kernel
set_option maxRecDepth 20000 in
theorem dX6_opens_17 : decode cX6_opens 17 = .ok (.getfield 140, 3) := by decide +kernel
set_option maxRecDepth 20000 in
theorem dX6_opens_20 : decode cX6_opens 20 = .ok (.istore_n 2, 1) := by decide +kernel
set_option maxRecDepth 20000 in
theorem dX6_opens_21 : decode cX6_opens 21 = .ok (.aload_n 0, 1) := by decide +kernel
set_option maxRecDepth 20000 in
theorem dX6_opens_22 : decode cX6_opens 22 = .ok (.iload_n 1, 1) := by decide +kernel
set_option maxRecDepth 20000 in
theorem dX6_opens_23 : decode cX6_opens 23 = .ok (.putfield 140, 3) := by decide +kernel
set_option maxRecDepth 20000 in
theorem dX6_opens_26 : decode cX6_opens 26 = .ok (.iload_n 2, 1) := by decide +kernel
set_option maxRecDepth 20000 in
theorem dX6_opens_27 : decode cX6_opens 27 = .ok (.ireturn, 1) := by decide +kernel
set_option maxRecDepth 20000 in
theorem dX6_list_0 : decode cX6_list 0 = .ok (.aload_n 0, 1) := by decide +kernel
set_option maxRecDepth 20000 in
theorem dX6_list_1 : decode cX6_list 1 = .ok (.iload_n 1, 1) := by decide +kernel
set_option maxRecDepth 20000 in
theorem dX6_list_2 : decode cX6_list 2 = .ok (.invokevirtual 57, 3) := by decide +kernel
set_option maxRecDepth 20000 in
theorem dX6_list_5 : decode cX6_list 5 = .ok (.ifCond .eq 11, 3) := by decide +kernel
set_option maxRecDepth 20000 in
theorem dX6_list_8 : decode cX6_list 8 = .ok (.aload_n 0, 1) := by decide +kernel
set_option maxRecDepth 20000 in
theorem dX6_list_9 : decode cX6_list 9 = .ok (.iload_n 2, 1) := by decide +kernel
set_option maxRecDepth 20000 in
theorem dX6_list_10 : decode cX6_list 10 = .ok (.invokevirtual 57, 3) := by decide +kernel
set_option maxRecDepth 20000 in
theorem dX6_list_13 : decode cX6_list 13 = .ok (.ifCond .ne 6, 3) := by decide +kernel
set_option maxRecDepth 20000 in
theorem dX6_list_16 : decode cX6_list 16 = .ok (.bipush (-2), 2) := by decide +kernel
set_option maxRecDepth 20000 in
theorem dX6_list_18 : decode cX6_list 18 = .ok (.ireturn, 1) := by decide +kernel
set_option maxRecDepth 20000 in
theorem dX6_list_19 : decode cX6_list 19 = .ok (.aload_n 0, 1) := by decide +kernel
set_option maxRecDepth 20000 in
theorem dX6_list_20 : decode cX6_list 20 = .ok (.getfield 23, 3) := by decide +kernel
set_option maxRecDepth 20000 in
theorem dX6_list_23 : decode cX6_list 23 = .ok (.iload_n 1, 1) := by decide +kernel
set_option maxRecDepth 20000 in
theorem dX6_list_24 : decode cX6_list 24 = .ok (.iload_n 2, 1) := by decide +kernel
set_option maxRecDepth 20000 in
theorem dX6_list_25 : decode cX6_list 25 = .ok (.invokevirtual 143, 3) := by decide +kernel
set_option maxRecDepth 20000 in
theorem dX6_list_28 : decode cX6_list 28 = .ok (.ifCond .eq 8, 3) := by decide +kernel
set_option maxRecDepth 20000 in
theorem dX6_list_31 : decode cX6_list 31 = .ok (.bipush (-4), 2) := by decide +kernel
set_option maxRecDepth 20000 in
theorem dX6_list_33 : decode cX6_list 33 = .ok (.goto 12, 3) := by decide +kernel
set_option maxRecDepth 20000 in
theorem dX6_list_36 : decode cX6_list 36 = .ok (.aload_n 0, 1) := by decide +kernel
set_option maxRecDepth 20000 in
theorem dX6_list_37 : decode cX6_list 37 = .ok (.getfield 23, 3) := by decide +kernel
set_option maxRecDepth 20000 in
theorem dX6_list_40 : decode cX6_list 40 = .ok (.iload_n 1, 1) := by decide +kernel
set_option maxRecDepth 20000 in
theorem dX6_list_41 : decode cX6_list 41 = .ok (.iload_n 2, 1) := by decide +kernel
set_option maxRecDepth 20000 in
theorem dX6_list_42 : decode cX6_list 42 = .ok (.invokevirtual 147, 3) := by decide +kernel
set_option maxRecDepth 20000 in
theorem dX6_list_45 : decode cX6_list 45 = .ok (.ireturn, 1) := by decide +kernel
set_option maxRecDepth 20000 in
theorem dX6_forget_0 : decode cX6_forget 0 = .ok (.aload_n 0, 1) := by decide +kernel
set_option maxRecDepth 20000 in
theorem dX6_forget_1 : decode cX6_forget 1 = .ok (.iload_n 1, 1) := by decide +kernel
set_option maxRecDepth 20000 in
theorem dX6_forget_2 : decode cX6_forget 2 = .ok (.invokevirtual 57, 3) := by decide +kernel
set_option maxRecDepth 20000 in
theorem dX6_forget_5 : decode cX6_forget 5 = .ok (.ifCond .eq 14, 3) := by decide +kernel
set_option maxRecDepth 20000 in
theorem dX6_forget_8 : decode cX6_forget 8 = .ok (.aload_n 0, 1) := by decide +kernel
set_option maxRecDepth 20000 in
theorem dX6_forget_9 : decode cX6_forget 9 = .ok (.getfield 23, 3) := by decide +kernel
set_option maxRecDepth 20000 in
theorem dX6_forget_12 : decode cX6_forget 12 = .ok (.iload_n 1, 1) := by decide +kernel
set_option maxRecDepth 20000 in
theorem dX6_forget_13 : decode cX6_forget 13 = .ok (.invokevirtual 151, 3) := by decide +kernel
set_option maxRecDepth 20000 in
theorem dX6_forget_16 : decode cX6_forget 16 = .ok (.goto 5, 3) := by decide +kernel
set_option maxRecDepth 20000 in
theorem dX6_forget_19 : decode cX6_forget 19 = .ok (.bipush (-2), 2) := by decide +kernel
set_option maxRecDepth 20000 in
theorem dX6_forget_21 : decode cX6_forget 21 = .ok (.ireturn, 1) := by decide +kernel
set_option maxRecDepth 20000 in
theorem dX6_wins_0 : decode cX6_wins 0 = .ok (.iload_n 1, 1) := by decide +kernel
set_option maxRecDepth 20000 in
theorem dX6_wins_1 : decode cX6_wins 1 = .ok (.invokestatic 154, 3) := by decide +kernel
set_option maxRecDepth 20000 in
theorem dX6_wins_4 : decode cX6_wins 4 = .ok (.ifCond .eq 11, 3) := by decide +kernel
set_option maxRecDepth 20000 in
theorem dX6_wins_7 : decode cX6_wins 7 = .ok (.aload_n 0, 1) := by decide +kernel
set_option maxRecDepth 20000 in
theorem dX6_wins_8 : decode cX6_wins 8 = .ok (.iload_n 2, 1) := by decide +kernel
set_option maxRecDepth 20000 in
theorem dX6_wins_9 : decode cX6_wins 9 = .ok (.invokevirtual 57, 3) := by decide +kernel
set_option maxRecDepth 20000 in
theorem dX6_wins_12 : decode cX6_wins 12 = .ok (.ifCond .ne 6, 3) := by decide +kernel
set_option maxRecDepth 20000 in
theorem dX6_wins_15 : decode cX6_wins 15 = .ok (.bipush (-2), 2) := by decide +kernel
set_option maxRecDepth 20000 in
theorem dX6_wins_17 : decode cX6_wins 17 = .ok (.ireturn, 1) := by decide +kernel
set_option maxRecDepth 20000 in
theorem dX6_wins_18 : decode cX6_wins 18 = .ok (.iload_n 1, 1) := by decide +kernel
set_option maxRecDepth 20000 in
theorem dX6_wins_19 : decode cX6_wins 19 = .ok (.ifCond .ne 26, 3) := by decide +kernel
set_option maxRecDepth 20000 in
theorem dX6_wins_22 : decode cX6_wins 22 = .ok (.aload_n 0, 1) := by decide +kernel
set_option maxRecDepth 20000 in
theorem dX6_wins_23 : decode cX6_wins 23 = .ok (.getfield 10, 3) := by decide +kernel
set_option maxRecDepth 20000 in
theorem dX6_wins_26 : decode cX6_wins 26 = .ok (.iload_n 2, 1) := by decide +kernel
set_option maxRecDepth 20000 in
theorem dX6_wins_27 : decode cX6_wins 27 = .ok (.invokevirtual 157, 3) := by decide +kernel
set_option maxRecDepth 20000 in
theorem dX6_wins_30 : decode cX6_wins 30 = .ok (.aload_n 0, 1) := by decide +kernel
set_option maxRecDepth 20000 in
theorem dX6_wins_31 : decode cX6_wins 31 = .ok (.getfield 140, 3) := by decide +kernel
set_option maxRecDepth 20000 in
theorem dX6_wins_34 : decode cX6_wins 34 = .ok (.if_icmp .gt 7, 3) := by decide +kernel
set_option maxRecDepth 20000 in
theorem dX6_wins_37 : decode cX6_wins 37 = .ok (.iconst 1, 1) := by decide +kernel
set_option maxRecDepth 20000 in
theorem dX6_wins_38 : decode cX6_wins 38 = .ok (.goto 23, 3) := by decide +kernel
set_option maxRecDepth 20000 in
theorem dX6_wins_41 : decode cX6_wins 41 = .ok (.iconst 0, 1) := by decide +kernel
set_option maxRecDepth 20000 in
theorem dX6_wins_42 : decode cX6_wins 42 = .ok (.goto 19, 3) := by decide +kernel
set_option maxRecDepth 20000 in
theorem dX6_wins_45 : decode cX6_wins 45 = .ok (.aload_n 0, 1) := by decide +kernel
set_option maxRecDepth 20000 in
theorem dX6_wins_46 : decode cX6_wins 46 = .ok (.getfield 23, 3) := by decide +kernel
set_option maxRecDepth 20000 in
theorem dX6_wins_49 : decode cX6_wins 49 = .ok (.iload_n 2, 1) := by decide +kernel
set_option maxRecDepth 20000 in
theorem dX6_wins_50 : decode cX6_wins 50 = .ok (.aload_n 0, 1) := by decide +kernel
set_option maxRecDepth 20000 in
theorem dX6_wins_51 : decode cX6_wins 51 = .ok (.getfield 140, 3) := by decide +kernel
set_option maxRecDepth 20000 in
theorem dX6_wins_54 : decode cX6_wins 54 = .ok (.aload_n 0, 1) := by decide +kernel
set_option maxRecDepth 20000 in
theorem dX6_wins_55 : decode cX6_wins 55 = .ok (.getfield 10, 3) := by decide +kernel
set_option maxRecDepth 20000 in
theorem dX6_wins_58 : decode cX6_wins 58 = .ok (.invokevirtual 160, 3) := by decide +kernel
set_option maxRecDepth 20000 in
theorem dX6_wins_61 : decode cX6_wins 61 = .ok (.istore_n 3, 1) := by decide +kernel
set_option maxRecDepth 20000 in
theorem dX6_wins_62 : decode cX6_wins 62 = .ok (.iload_n 3, 1) := by decide +kernel
set_option maxRecDepth 20000 in
theorem dX6_wins_63 : decode cX6_wins 63 = .ok (.ifCond .eq 7, 3) := by decide +kernel
set_option maxRecDepth 20000 in
theorem dX6_wins_66 : decode cX6_wins 66 = .ok (.iconst 1, 1) := by decide +kernel
set_option maxRecDepth 20000 in
theorem dX6_wins_67 : decode cX6_wins 67 = .ok (.goto 4, 3) := by decide +kernel
set_option maxRecDepth 20000 in
theorem dX6_wins_70 : decode cX6_wins 70 = .ok (.iconst 0, 1) := by decide +kernel
set_option maxRecDepth 20000 in
theorem dX6_wins_71 : decode cX6_wins 71 = .ok (.ireturn, 1) := by decide +kernel
set_option maxRecDepth 20000 in
theorem dX6_allWin_0 : decode cX6_allWin 0 = .ok (.iload_n 1, 1) := by decide +kernel
set_option maxRecDepth 20000 in
theorem dX6_allWin_1 : decode cX6_allWin 1 = .ok (.invokestatic 154, 3) := by decide +kernel
set_option maxRecDepth 20000 in
theorem dX6_allWin_4 : decode cX6_allWin 4 = .ok (.ifCond .ne 7, 3) := by decide +kernel
set_option maxRecDepth 20000 in
theorem dX6_allWin_7 : decode cX6_allWin 7 = .ok (.ldc2_w 96, 3) := by decide +kernel
set_option maxRecDepth 20000 in
theorem dX6_allWin_10 : decode cX6_allWin 10 = .ok (.lreturn, 1) := by decide +kernel
set_option maxRecDepth 20000 in
theorem dX6_allWin_11 : decode cX6_allWin 11 = .ok (.iload_n 1, 1) := by decide +kernel
set_option maxRecDepth 20000 in
theorem dX6_allWin_12 : decode cX6_allWin 12 = .ok (.ifCond .ne 19, 3) := by decide +kernel
set_option maxRecDepth 20000 in
theorem dX6_allWin_15 : decode cX6_allWin 15 = .ok (.aload_n 0, 1) := by decide +kernel
set_option maxRecDepth 20000 in
theorem dX6_allWin_16 : decode cX6_allWin 16 = .ok (.getfield 30, 3) := by decide +kernel
set_option maxRecDepth 20000 in
theorem dX6_allWin_19 : decode cX6_allWin 19 = .ok (.aload_n 0, 1) := by decide +kernel
set_option maxRecDepth 20000 in
theorem dX6_allWin_20 : decode cX6_allWin 20 = .ok (.getfield 140, 3) := by decide +kernel
set_option maxRecDepth 20000 in
theorem dX6_allWin_23 : decode cX6_allWin 23 = .ok (.aload_n 0, 1) := by decide +kernel
set_option maxRecDepth 20000 in
theorem dX6_allWin_24 : decode cX6_allWin 24 = .ok (.getfield 102, 3) := by decide +kernel
set_option maxRecDepth 20000 in
theorem dX6_allWin_27 : decode cX6_allWin 27 = .ok (.invokevirtual 164, 3) := by decide +kernel
set_option maxRecDepth 20000 in
theorem dX6_allWin_30 : decode cX6_allWin 30 = .ok (.lreturn, 1) := by decide +kernel
set_option maxRecDepth 20000 in
theorem dX6_allWin_31 : decode cX6_allWin 31 = .ok (.aload_n 0, 1) := by decide +kernel
set_option maxRecDepth 20000 in
theorem dX6_allWin_32 : decode cX6_allWin 32 = .ok (.getfield 102, 3) := by decide +kernel
set_option maxRecDepth 20000 in
theorem dX6_allWin_35 : decode cX6_allWin 35 = .ok (.bipush 7, 2) := by decide +kernel
set_option maxRecDepth 20000 in
theorem dX6_allWin_37 : decode cX6_allWin 37 = .ok (.if_icmp .le 9, 3) := by decide +kernel
set_option maxRecDepth 20000 in
theorem dX6_allWin_40 : decode cX6_allWin 40 = .ok (.ldc2_w 168, 3) := by decide +kernel
set_option maxRecDepth 20000 in
theorem dX6_allWin_43 : decode cX6_allWin 43 = .ok (.goto 18, 3) := by decide +kernel
set_option maxRecDepth 20000 in
theorem dX6_allWin_46 : decode cX6_allWin 46 = .ok (.aload_n 0, 1) := by decide +kernel
set_option maxRecDepth 20000 in
theorem dX6_allWin_47 : decode cX6_allWin 47 = .ok (.getfield 23, 3) := by decide +kernel
set_option maxRecDepth 20000 in
theorem dX6_allWin_50 : decode cX6_allWin 50 = .ok (.aload_n 0, 1) := by decide +kernel
set_option maxRecDepth 20000 in
theorem dX6_allWin_51 : decode cX6_allWin 51 = .ok (.getfield 102, 3) := by decide +kernel
set_option maxRecDepth 20000 in
theorem dX6_allWin_54 : decode cX6_allWin 54 = .ok (.aload_n 0, 1) := by decide +kernel
set_option maxRecDepth 20000 in
theorem dX6_allWin_55 : decode cX6_allWin 55 = .ok (.getfield 140, 3) := by decide +kernel
set_option maxRecDepth 20000 in
theorem dX6_allWin_58 : decode cX6_allWin 58 = .ok (.invokevirtual 170, 3) := by decide +kernel
set_option maxRecDepth 20000 in
theorem dX6_allWin_61 : decode cX6_allWin 61 = .ok (.lreturn, 1) := by decide +kernel
set_option maxRecDepth 20000 in
theorem dX6_count_0 : decode cX6_count 0 = .ok (.iload_n 1, 1) := by decide +kernel
set_option maxRecDepth 20000 in
theorem dX6_count_1 : decode cX6_count 1 = .ok (.tableswitch 45 0 2 #[27, 32, 37], 27) := by decide +kernel
set_option maxRecDepth 20000 in
theorem dX6_count_28 : decode cX6_count 28 = .ok (.aload_n 0, 1) := by decide +kernel
set_option maxRecDepth 20000 in
theorem dX6_count_29 : decode cX6_count 29 = .ok (.getfield 102, 3) := by decide +kernel
set_option maxRecDepth 20000 in
theorem dX6_count_32 : decode cX6_count 32 = .ok (.ireturn, 1) := by decide +kernel
set_option maxRecDepth 20000 in
theorem dX6_count_33 : decode cX6_count 33 = .ok (.aload_n 0, 1) := by decide +kernel
set_option maxRecDepth 20000 in
theorem dX6_count_34 : decode cX6_count 34 = .ok (.getfield 140, 3) := by decide +kernel
set_option maxRecDepth 20000 in
theorem dX6_count_37 : decode cX6_count 37 = .ok (.ireturn, 1) := by decide +kernel
set_option maxRecDepth 20000 in
theorem dX6_count_38 : decode cX6_count 38 = .ok (.aload_n 0, 1) := by decide +kernel
set_option maxRecDepth 20000 in
theorem dX6_count_39 : decode cX6_count 39 = .ok (.getfield 23, 3) := by decide +kernel
set_option maxRecDepth 20000 in
theorem dX6_count_42 : decode cX6_count 42 = .ok (.invokevirtual 173, 3) := by decide +kernel
set_option maxRecDepth 20000 in
theorem dX6_count_45 : decode cX6_count 45 = .ok (.ireturn, 1) := by decide +kernel
set_option maxRecDepth 20000 in
theorem dX6_count_46 : decode cX6_count 46 = .ok (.bipush (-2), 2) := by decide +kernel
set_option maxRecDepth 20000 in
theorem dX6_count_48 : decode cX6_count 48 = .ok (.ireturn, 1) := by decide +kernel
set_option maxRecDepth 20000 in
theorem dX6_startWith_0 : decode cX6_startWith 0 = .ok (.aload_n 0, 1) := by decide +kernel
set_option maxRecDepth 20000 in
theorem dX6_startWith_1 : decode cX6_startWith 1 = .ok (.iload_n 1, 1) := by decide +kernel
set_option maxRecDepth 20000 in
theorem dX6_startWith_2 : decode cX6_startWith 2 = .ok (.putfield 102, 3) := by decide +kernel
set_option maxRecDepth 20000 in
theorem dX6_startWith_5 : decode cX6_startWith 5 = .ok (.aload_n 0, 1) := by decide +kernel
set_option maxRecDepth 20000 in
theorem dX6_startWith_6 : decode cX6_startWith 6 = .ok (.iconst 2, 1) := by decide +kernel
set_option maxRecDepth 20000 in
theorem dX6_startWith_7 : decode cX6_startWith 7 = .ok (.iload_n 1, 1) := by decide +kernel
set_option maxRecDepth 20000 in
theorem dX6_startWith_8 : decode cX6_startWith 8 = .ok (.invokestatic 177, 3) := by decide +kernel
set_option maxRecDepth 20000 in
theorem dX6_startWith_11 : decode cX6_startWith 11 = .ok (.putfield 140, 3) := by decide +kernel
set_option maxRecDepth 20000 in
theorem dX6_startWith_14 : decode cX6_startWith 14 = .ok (.aload_n 0, 1) := by decide +kernel
set_option maxRecDepth 20000 in
theorem dX6_startWith_15 : decode cX6_startWith 15 = .ok (.getfield 10, 3) := by decide +kernel
set_option maxRecDepth 20000 in
theorem dX6_startWith_18 : decode cX6_startWith 18 = .ok (.iload_n 1, 1) := by decide +kernel
set_option maxRecDepth 20000 in
theorem dX6_startWith_19 : decode cX6_startWith 19 = .ok (.invokevirtual 182, 3) := by decide +kernel
set_option maxRecDepth 20000 in
theorem dX6_startWith_22 : decode cX6_startWith 22 = .ok (.iconst 0, 1) := by decide +kernel
set_option maxRecDepth 20000 in
theorem dX6_startWith_23 : decode cX6_startWith 23 = .ok (.istore_n 2, 1) := by decide +kernel
set_option maxRecDepth 20000 in
theorem dX6_startWith_24 : decode cX6_startWith 24 = .ok (.iload_n 2, 1) := by decide +kernel
set_option maxRecDepth 20000 in
theorem dX6_startWith_25 : decode cX6_startWith 25 = .ok (.iconst 4, 1) := by decide +kernel
set_option maxRecDepth 20000 in
theorem dX6_startWith_26 : decode cX6_startWith 26 = .ok (.if_icmp .ge 19, 3) := by decide +kernel
set_option maxRecDepth 20000 in
theorem dX6_startWith_29 : decode cX6_startWith 29 = .ok (.aload_n 0, 1) := by decide +kernel
set_option maxRecDepth 20000 in
theorem dX6_startWith_30 : decode cX6_startWith 30 = .ok (.getfield 16, 3) := by decide +kernel
set_option maxRecDepth 20000 in
theorem dX6_startWith_33 : decode cX6_startWith 33 = .ok (.iload_n 2, 1) := by decide +kernel
set_option maxRecDepth 20000 in
theorem dX6_startWith_34 : decode cX6_startWith 34 = .ok (.aaload, 1) := by decide +kernel
set_option maxRecDepth 20000 in
theorem dX6_startWith_35 : decode cX6_startWith 35 = .ok (.iload_n 1, 1) := by decide +kernel
set_option maxRecDepth 20000 in
theorem dX6_startWith_36 : decode cX6_startWith 36 = .ok (.invokevirtual 182, 3) := by decide +kernel
set_option maxRecDepth 20000 in
theorem dX6_startWith_39 : decode cX6_startWith 39 = .ok (.iinc 2 1, 3) := by decide +kernel
set_option maxRecDepth 20000 in
theorem dX6_startWith_42 : decode cX6_startWith 42 = .ok (.goto (-18), 3) := by decide +kernel
set_option maxRecDepth 20000 in
theorem dX6_startWith_45 : decode cX6_startWith 45 = .ok (.aload_n 0, 1) := by decide +kernel
set_option maxRecDepth 20000 in
theorem dX6_startWith_46 : decode cX6_startWith 46 = .ok (.getfield 23, 3) := by decide +kernel
set_option maxRecDepth 20000 in
theorem dX6_startWith_49 : decode cX6_startWith 49 = .ok (.invokevirtual 183, 3) := by decide +kernel
set_option maxRecDepth 20000 in
theorem dX6_startWith_52 : decode cX6_startWith 52 = .ok (.return_, 1) := by decide +kernel
set_option maxRecDepth 20000 in
theorem dX6_isThing_0 : decode cX6_isThing 0 = .ok (.iload_n 1, 1) := by decide +kernel
set_option maxRecDepth 20000 in
theorem dX6_isThing_1 : decode cX6_isThing 1 = .ok (.ifCond .lt 15, 3) := by decide +kernel
set_option maxRecDepth 20000 in
theorem dX6_isThing_4 : decode cX6_isThing 4 = .ok (.iload_n 1, 1) := by decide +kernel
set_option maxRecDepth 20000 in
theorem dX6_isThing_5 : decode cX6_isThing 5 = .ok (.aload_n 0, 1) := by decide +kernel
set_option maxRecDepth 20000 in
theorem dX6_isThing_6 : decode cX6_isThing 6 = .ok (.getfield 102, 3) := by decide +kernel
set_option maxRecDepth 20000 in
theorem dX6_isThing_9 : decode cX6_isThing 9 = .ok (.if_icmp .ge 7, 3) := by decide +kernel
set_option maxRecDepth 20000 in
theorem dX6_isThing_12 : decode cX6_isThing 12 = .ok (.iconst 1, 1) := by decide +kernel
set_option maxRecDepth 20000 in
theorem dX6_isThing_13 : decode cX6_isThing 13 = .ok (.goto 4, 3) := by decide +kernel
set_option maxRecDepth 20000 in
theorem dX6_isThing_16 : decode cX6_isThing 16 = .ok (.iconst 0, 1) := by decide +kernel
set_option maxRecDepth 20000 in
theorem dX6_isThing_17 : decode cX6_isThing 17 = .ok (.ireturn, 1) := by decide +kernel
set_option maxRecDepth 20000 in
theorem dX6_isPlace_0 : decode cX6_isPlace 0 = .ok (.iload_n 0, 1) := by decide +kernel
set_option maxRecDepth 20000 in
theorem dX6_isPlace_1 : decode cX6_isPlace 1 = .ok (.ifCond .lt 12, 3) := by decide +kernel
set_option maxRecDepth 20000 in
theorem dX6_isPlace_4 : decode cX6_isPlace 4 = .ok (.iload_n 0, 1) := by decide +kernel
set_option maxRecDepth 20000 in
theorem dX6_isPlace_5 : decode cX6_isPlace 5 = .ok (.iconst 4, 1) := by decide +kernel
set_option maxRecDepth 20000 in
theorem dX6_isPlace_6 : decode cX6_isPlace 6 = .ok (.if_icmp .ge 7, 3) := by decide +kernel
set_option maxRecDepth 20000 in
theorem dX6_isPlace_9 : decode cX6_isPlace 9 = .ok (.iconst 1, 1) := by decide +kernel
set_option maxRecDepth 20000 in
theorem dX6_isPlace_10 : decode cX6_isPlace 10 = .ok (.goto 4, 3) := by decide +kernel
set_option maxRecDepth 20000 in
theorem dX6_isPlace_13 : decode cX6_isPlace 13 = .ok (.iconst 0, 1) := by decide +kernel
set_option maxRecDepth 20000 in
theorem dX6_isPlace_14 : decode cX6_isPlace 14 = .ok (.ireturn, 1) := by decide +kernel
set_option maxRecDepth 20000 in
theorem dX6_isKind_0 : decode cX6_isKind 0 = .ok (.iload_n 0, 1) := by decide +kernel
set_option maxRecDepth 20000 in
theorem dX6_isKind_1 : decode cX6_isKind 1 = .ok (.ifCond .lt 13, 3) := by decide +kernel
set_option maxRecDepth 20000 in
theorem dX6_isKind_4 : decode cX6_isKind 4 = .ok (.iload_n 0, 1) := by decide +kernel
set_option maxRecDepth 20000 in
theorem dX6_isKind_5 : decode cX6_isKind 5 = .ok (.bipush 8, 2) := by decide +kernel
set_option maxRecDepth 20000 in
theorem dX6_isKind_7 : decode cX6_isKind 7 = .ok (.if_icmp .ge 7, 3) := by decide +kernel
set_option maxRecDepth 20000 in
theorem dX6_isKind_10 : decode cX6_isKind 10 = .ok (.iconst 1, 1) := by decide +kernel
set_option maxRecDepth 20000 in
theorem dX6_isKind_11 : decode cX6_isKind 11 = .ok (.goto 4, 3) := by decide +kernel
set_option maxRecDepth 20000 in
theorem dX6_isKind_14 : decode cX6_isKind 14 = .ok (.iconst 0, 1) := by decide +kernel
set_option maxRecDepth 20000 in
theorem dX6_isKind_15 : decode cX6_isKind 15 = .ok (.ireturn, 1) := by decide +kernel
set_option maxRecDepth 20000 in
theorem dX6_isRowKind_0 : decode cX6_isRowKind 0 = .ok (.iload_n 0, 1) := by decide +kernel
set_option maxRecDepth 20000 in
theorem dX6_isRowKind_1 : decode cX6_isRowKind 1 = .ok (.iconst (-1), 1) := by decide +kernel
set_option maxRecDepth 20000 in
theorem dX6_isRowKind_2 : decode cX6_isRowKind 2 = .ok (.if_icmp .eq 13, 3) := by decide +kernel
set_option maxRecDepth 20000 in
theorem dX6_isRowKind_5 : decode cX6_isRowKind 5 = .ok (.iload_n 0, 1) := by decide +kernel
set_option maxRecDepth 20000 in
theorem dX6_isRowKind_6 : decode cX6_isRowKind 6 = .ok (.iconst 1, 1) := by decide +kernel
set_option maxRecDepth 20000 in
theorem dX6_isRowKind_7 : decode cX6_isRowKind 7 = .ok (.if_icmp .eq 8, 3) := by decide +kernel
set_option maxRecDepth 20000 in
theorem dX6_isRowKind_10 : decode cX6_isRowKind 10 = .ok (.iload_n 0, 1) := by decide +kernel
set_option maxRecDepth 20000 in
theorem dX6_isRowKind_11 : decode cX6_isRowKind 11 = .ok (.iconst 2, 1) := by decide +kernel
set_option maxRecDepth 20000 in
theorem dX6_isRowKind_12 : decode cX6_isRowKind 12 = .ok (.if_icmp .ne 7, 3) := by decide +kernel
set_option maxRecDepth 20000 in
theorem dX6_isRowKind_15 : decode cX6_isRowKind 15 = .ok (.iconst 1, 1) := by decide +kernel
set_option maxRecDepth 20000 in
theorem dX6_isRowKind_16 : decode cX6_isRowKind 16 = .ok (.goto 4, 3) := by decide +kernel
set_option maxRecDepth 20000 in
theorem dX6_isRowKind_19 : decode cX6_isRowKind 19 = .ok (.iconst 0, 1) := by decide +kernel
set_option maxRecDepth 20000 in
theorem dX6_isRowKind_20 : decode cX6_isRowKind 20 = .ok (.ireturn, 1) := by decide +kernel
set_option maxRecDepth 20000 in
theorem dX6_isWay_0 : decode cX6_isWay 0 = .ok (.iload_n 0, 1) := by decide +kernel
set_option maxRecDepth 20000 in
theorem dX6_isWay_1 : decode cX6_isWay 1 = .ok (.ifCond .eq 8, 3) := by decide +kernel
set_option maxRecDepth 20000 in
theorem dX6_isWay_4 : decode cX6_isWay 4 = .ok (.iload_n 0, 1) := by decide +kernel
set_option maxRecDepth 20000 in
theorem dX6_isWay_5 : decode cX6_isWay 5 = .ok (.iconst 1, 1) := by decide +kernel
set_option maxRecDepth 20000 in
theorem dX6_isWay_6 : decode cX6_isWay 6 = .ok (.if_icmp .ne 7, 3) := by decide +kernel
set_option maxRecDepth 20000 in
theorem dX6_isWay_9 : decode cX6_isWay 9 = .ok (.iconst 1, 1) := by decide +kernel
set_option maxRecDepth 20000 in
theorem dX6_isWay_10 : decode cX6_isWay 10 = .ok (.goto 4, 3) := by decide +kernel
set_option maxRecDepth 20000 in
theorem dX6_isWay_13 : decode cX6_isWay 13 = .ok (.iconst 0, 1) := by decide +kernel
set_option maxRecDepth 20000 in
theorem dX6_isWay_14 : decode cX6_isWay 14 = .ok (.ireturn, 1) := by decide +kernel
set_option maxRecDepth 20000 in
theorem dX6_tallyOf_0 : decode cX6_tallyOf 0 = .ok (.iload_n 1, 1) := by decide +kernel
set_option maxRecDepth 20000 in
theorem dX6_tallyOf_1 : decode cX6_tallyOf 1 = .ok (.bipush 19, 2) := by decide +kernel
set_option maxRecDepth 20000 in
theorem dX6_tallyOf_3 : decode cX6_tallyOf 3 = .ok (.imul, 1) := by decide +kernel
set_option maxRecDepth 20000 in
theorem dX6_tallyOf_4 : decode cX6_tallyOf 4 = .ok (.aload_n 0, 1) := by decide +kernel
set_option maxRecDepth 20000 in
theorem dX6_tallyOf_5 : decode cX6_tallyOf 5 = .ok (.getfield 102, 3) := by decide +kernel
set_option maxRecDepth 20000 in
theorem dX6_tallyOf_8 : decode cX6_tallyOf 8 = .ok (.iadd, 1) := by decide +kernel
set_option maxRecDepth 20000 in
theorem dX6_tallyOf_9 : decode cX6_tallyOf 9 = .ok (.istore_n 2, 1) := by decide +kernel
set_option maxRecDepth 20000 in
theorem dX6_tallyOf_10 : decode cX6_tallyOf 10 = .ok (.aload_n 0, 1) := by decide +kernel
set_option maxRecDepth 20000 in
theorem dX6_tallyOf_11 : decode cX6_tallyOf 11 = .ok (.getfield 45, 3) := by decide +kernel
set_option maxRecDepth 20000 in
theorem dX6_tallyOf_14 : decode cX6_tallyOf 14 = .ok (.iload_n 2, 1) := by decide +kernel
set_option maxRecDepth 20000 in
theorem dX6_tallyOf_15 : decode cX6_tallyOf 15 = .ok (.aaload, 1) := by decide +kernel
set_option maxRecDepth 20000 in
theorem dX6_tallyOf_16 : decode cX6_tallyOf 16 = .ok (.ifnonnull 25, 3) := by decide +kernel
set_option maxRecDepth 20000 in
theorem dX6_tallyOf_19 : decode cX6_tallyOf 19 = .ok (.aload_n 0, 1) := by decide +kernel
set_option maxRecDepth 20000 in
theorem dX6_tallyOf_20 : decode cX6_tallyOf 20 = .ok (.getfield 45, 3) := by decide +kernel
set_option maxRecDepth 20000 in
theorem dX6_tallyOf_23 : decode cX6_tallyOf 23 = .ok (.iload_n 2, 1) := by decide +kernel
set_option maxRecDepth 20000 in
theorem dX6_tallyOf_24 : decode cX6_tallyOf 24 = .ok (.new 43, 3) := by decide +kernel
set_option maxRecDepth 20000 in
theorem dX6_tallyOf_27 : decode cX6_tallyOf 27 = .ok (.dup, 1) := by decide +kernel
set_option maxRecDepth 20000 in
theorem dX6_tallyOf_28 : decode cX6_tallyOf 28 = .ok (.iload_n 1, 1) := by decide +kernel
set_option maxRecDepth 20000 in
theorem dX6_tallyOf_29 : decode cX6_tallyOf 29 = .ok (.aload_n 0, 1) := by decide +kernel
set_option maxRecDepth 20000 in
theorem dX6_tallyOf_30 : decode cX6_tallyOf 30 = .ok (.getfield 102, 3) := by decide +kernel
set_option maxRecDepth 20000 in
theorem dX6_tallyOf_33 : decode cX6_tallyOf 33 = .ok (.aload_n 0, 1) := by decide +kernel
set_option maxRecDepth 20000 in
theorem dX6_tallyOf_34 : decode cX6_tallyOf 34 = .ok (.getfield 30, 3) := by decide +kernel
set_option maxRecDepth 20000 in
theorem dX6_tallyOf_37 : decode cX6_tallyOf 37 = .ok (.invokespecial 186, 3) := by decide +kernel
set_option maxRecDepth 20000 in
theorem dX6_tallyOf_40 : decode cX6_tallyOf 40 = .ok (.aastore, 1) := by decide +kernel
set_option maxRecDepth 20000 in
theorem dX6_tallyOf_41 : decode cX6_tallyOf 41 = .ok (.aload_n 0, 1) := by decide +kernel
set_option maxRecDepth 20000 in
theorem dX6_tallyOf_42 : decode cX6_tallyOf 42 = .ok (.getfield 45, 3) := by decide +kernel
set_option maxRecDepth 20000 in
theorem dX6_tallyOf_45 : decode cX6_tallyOf 45 = .ok (.iload_n 2, 1) := by decide +kernel
set_option maxRecDepth 20000 in
theorem dX6_tallyOf_46 : decode cX6_tallyOf 46 = .ok (.aaload, 1) := by decide +kernel
set_option maxRecDepth 20000 in
theorem dX6_tallyOf_47 : decode cX6_tallyOf 47 = .ok (.areturn, 1) := by decide +kernel
set_option maxRecDepth 20000 in
theorem dX6_commonDivisor_0 : decode cX6_commonDivisor 0 = .ok (.lload_n 0, 1) := by decide +kernel
set_option maxRecDepth 20000 in
theorem dX6_commonDivisor_1 : decode cX6_commonDivisor 1 = .ok (.lstore 4, 2) := by decide +kernel
set_option maxRecDepth 20000 in
theorem dX6_commonDivisor_3 : decode cX6_commonDivisor 3 = .ok (.lload_n 2, 1) := by decide +kernel
set_option maxRecDepth 20000 in
theorem dX6_commonDivisor_4 : decode cX6_commonDivisor 4 = .ok (.lstore 6, 2) := by decide +kernel
set_option maxRecDepth 20000 in
theorem dX6_commonDivisor_6 : decode cX6_commonDivisor 6 = .ok (.iconst 0, 1) := by decide +kernel
set_option maxRecDepth 20000 in
theorem dX6_commonDivisor_7 : decode cX6_commonDivisor 7 = .ok (.istore 8, 2) := by decide +kernel
set_option maxRecDepth 20000 in
theorem dX6_commonDivisor_9 : decode cX6_commonDivisor 9 = .ok (.iload 8, 2) := by decide +kernel
set_option maxRecDepth 20000 in
theorem dX6_commonDivisor_11 : decode cX6_commonDivisor 11 = .ok (.bipush 100, 2) := by decide +kernel
set_option maxRecDepth 20000 in
theorem dX6_commonDivisor_13 : decode cX6_commonDivisor 13 = .ok (.if_icmp .ge 31, 3) := by decide +kernel
set_option maxRecDepth 20000 in
theorem dX6_commonDivisor_16 : decode cX6_commonDivisor 16 = .ok (.lload 6, 2) := by decide +kernel
set_option maxRecDepth 20000 in
theorem dX6_commonDivisor_18 : decode cX6_commonDivisor 18 = .ok (.lconst 0, 1) := by decide +kernel
set_option maxRecDepth 20000 in
theorem dX6_commonDivisor_19 : decode cX6_commonDivisor 19 = .ok (.lcmp, 1) := by decide +kernel
set_option maxRecDepth 20000 in
theorem dX6_commonDivisor_20 : decode cX6_commonDivisor 20 = .ok (.ifCond .eq 24, 3) := by decide +kernel
set_option maxRecDepth 20000 in
theorem dX6_commonDivisor_23 : decode cX6_commonDivisor 23 = .ok (.lload 4, 2) := by decide +kernel
set_option maxRecDepth 20000 in
theorem dX6_commonDivisor_25 : decode cX6_commonDivisor 25 = .ok (.lload 6, 2) := by decide +kernel
set_option maxRecDepth 20000 in
theorem dX6_commonDivisor_27 : decode cX6_commonDivisor 27 = .ok (.lrem, 1) := by decide +kernel
set_option maxRecDepth 20000 in
theorem dX6_commonDivisor_28 : decode cX6_commonDivisor 28 = .ok (.lstore 9, 2) := by decide +kernel
set_option maxRecDepth 20000 in
theorem dX6_commonDivisor_30 : decode cX6_commonDivisor 30 = .ok (.lload 6, 2) := by decide +kernel
set_option maxRecDepth 20000 in
theorem dX6_commonDivisor_32 : decode cX6_commonDivisor 32 = .ok (.lstore 4, 2) := by decide +kernel
set_option maxRecDepth 20000 in
theorem dX6_commonDivisor_34 : decode cX6_commonDivisor 34 = .ok (.lload 9, 2) := by decide +kernel
set_option maxRecDepth 20000 in
theorem dX6_commonDivisor_36 : decode cX6_commonDivisor 36 = .ok (.lstore 6, 2) := by decide +kernel
set_option maxRecDepth 20000 in
theorem dX6_commonDivisor_38 : decode cX6_commonDivisor 38 = .ok (.iinc 8 1, 3) := by decide +kernel
set_option maxRecDepth 20000 in
theorem dX6_commonDivisor_41 : decode cX6_commonDivisor 41 = .ok (.goto (-32), 3) := by decide +kernel
set_option maxRecDepth 20000 in
theorem dX6_commonDivisor_44 : decode cX6_commonDivisor 44 = .ok (.lload 4, 2) := by decide +kernel
set_option maxRecDepth 20000 in
theorem dX6_commonDivisor_46 : decode cX6_commonDivisor 46 = .ok (.lreturn, 1) := by decide +kernel
set_option maxRecDepth 20000 in
theorem dX6_commonMultiple_0 : decode cX6_commonMultiple 0 = .ok (.iload_n 0, 1) := by decide +kernel
set_option maxRecDepth 20000 in
theorem dX6_commonMultiple_1 : decode cX6_commonMultiple 1 = .ok (.i2l, 1) := by decide +kernel
set_option maxRecDepth 20000 in
theorem dX6_commonMultiple_2 : decode cX6_commonMultiple 2 = .ok (.iload_n 1, 1) := by decide +kernel
set_option maxRecDepth 20000 in
theorem dX6_commonMultiple_3 : decode cX6_commonMultiple 3 = .ok (.i2l, 1) := by decide +kernel
set_option maxRecDepth 20000 in
theorem dX6_commonMultiple_4 : decode cX6_commonMultiple 4 = .ok (.lmul, 1) := by decide +kernel
set_option maxRecDepth 20000 in
theorem dX6_commonMultiple_5 : decode cX6_commonMultiple 5 = .ok (.iload_n 0, 1) := by decide +kernel
set_option maxRecDepth 20000 in
theorem dX6_commonMultiple_6 : decode cX6_commonMultiple 6 = .ok (.i2l, 1) := by decide +kernel
set_option maxRecDepth 20000 in
theorem dX6_commonMultiple_7 : decode cX6_commonMultiple 7 = .ok (.iload_n 1, 1) := by decide +kernel
set_option maxRecDepth 20000 in
theorem dX6_commonMultiple_8 : decode cX6_commonMultiple 8 = .ok (.i2l, 1) := by decide +kernel
set_option maxRecDepth 20000 in
theorem dX6_commonMultiple_9 : decode cX6_commonMultiple 9 = .ok (.invokestatic 109, 3) := by decide +kernel
set_option maxRecDepth 20000 in
theorem dX6_commonMultiple_12 : decode cX6_commonMultiple 12 = .ok (.invokestatic 113, 3) := by decide +kernel
set_option maxRecDepth 20000 in
theorem dX6_commonMultiple_15 : decode cX6_commonMultiple 15 = .ok (.l2i, 1) := by decide +kernel
set_option maxRecDepth 20000 in
theorem dX6_commonMultiple_16 : decode cX6_commonMultiple 16 = .ok (.ireturn, 1) := by decide +kernel
set_option maxRecDepth 20000 in
theorem dX6_quotient_0 : decode cX6_quotient 0 = .ok (.lload_n 2, 1) := by decide +kernel
set_option maxRecDepth 20000 in
theorem dX6_quotient_1 : decode cX6_quotient 1 = .ok (.lconst 0, 1) := by decide +kernel
set_option maxRecDepth 20000 in
theorem dX6_quotient_2 : decode cX6_quotient 2 = .ok (.lcmp, 1) := by decide +kernel
set_option maxRecDepth 20000 in
theorem dX6_quotient_3 : decode cX6_quotient 3 = .ok (.ifCond .ne 7, 3) := by decide +kernel
set_option maxRecDepth 20000 in
theorem dX6_quotient_6 : decode cX6_quotient 6 = .ok (.lconst 0, 1) := by decide +kernel
set_option maxRecDepth 20000 in
theorem dX6_quotient_7 : decode cX6_quotient 7 = .ok (.goto 6, 3) := by decide +kernel
set_option maxRecDepth 20000 in
theorem dX6_quotient_10 : decode cX6_quotient 10 = .ok (.lload_n 0, 1) := by decide +kernel
set_option maxRecDepth 20000 in
theorem dX6_quotient_11 : decode cX6_quotient 11 = .ok (.lload_n 2, 1) := by decide +kernel
set_option maxRecDepth 20000 in
theorem dX6_quotient_12 : decode cX6_quotient 12 = .ok (.ldiv, 1) := by decide +kernel
set_option maxRecDepth 20000 in
theorem dX6_quotient_13 : decode cX6_quotient 13 = .ok (.lreturn, 1) := by decide +kernel
set_option maxRecDepth 20000 in
theorem dX6_entry_0 : decode cX6_entry 0 = .ok (.iload_n 1, 1) := by decide +kernel
set_option maxRecDepth 20000 in
theorem dX6_entry_1 : decode cX6_entry 1 = .ok (.ifCond .lt 15, 3) := by decide +kernel
set_option maxRecDepth 20000 in
theorem dX6_entry_4 : decode cX6_entry 4 = .ok (.iload_n 1, 1) := by decide +kernel
set_option maxRecDepth 20000 in
theorem dX6_entry_5 : decode cX6_entry 5 = .ok (.aload_n 0, 1) := by decide +kernel
set_option maxRecDepth 20000 in
theorem dX6_entry_6 : decode cX6_entry 6 = .ok (.arraylength, 1) := by decide +kernel
set_option maxRecDepth 20000 in
theorem dX6_entry_7 : decode cX6_entry 7 = .ok (.if_icmp .ge 9, 3) := by decide +kernel
set_option maxRecDepth 20000 in
theorem dX6_entry_10 : decode cX6_entry 10 = .ok (.aload_n 0, 1) := by decide +kernel
set_option maxRecDepth 20000 in
theorem dX6_entry_11 : decode cX6_entry 11 = .ok (.iload_n 1, 1) := by decide +kernel
set_option maxRecDepth 20000 in
theorem dX6_entry_12 : decode cX6_entry 12 = .ok (.laload, 1) := by decide +kernel
set_option maxRecDepth 20000 in
theorem dX6_entry_13 : decode cX6_entry 13 = .ok (.goto 4, 3) := by decide +kernel
set_option maxRecDepth 20000 in
theorem dX6_entry_16 : decode cX6_entry 16 = .ok (.lconst 0, 1) := by decide +kernel
set_option maxRecDepth 20000 in
theorem dX6_entry_17 : decode cX6_entry 17 = .ok (.lreturn, 1) := by decide +kernel
set_option maxRecDepth 20000 in
theorem dJ6_bitCount_0f7a4_0 : decode cJ6_bitCount_0f7a4 0 = .ok (.iload_n 0, 1) := by decide +kernel
set_option maxRecDepth 20000 in
theorem dJ6_bitCount_0f7a4_1 : decode cJ6_bitCount_0f7a4 1 = .ok (.iload_n 0, 1) := by decide +kernel
set_option maxRecDepth 20000 in
theorem dJ6_bitCount_0f7a4_2 : decode cJ6_bitCount_0f7a4 2 = .ok (.iconst 1, 1) := by decide +kernel
set_option maxRecDepth 20000 in
theorem dJ6_bitCount_0f7a4_3 : decode cJ6_bitCount_0f7a4 3 = .ok (.iushr, 1) := by decide +kernel
set_option maxRecDepth 20000 in
theorem dJ6_bitCount_0f7a4_4 : decode cJ6_bitCount_0f7a4 4 = .ok (.ldc_w 265, 3) := by decide +kernel
set_option maxRecDepth 20000 in
theorem dJ6_bitCount_0f7a4_7 : decode cJ6_bitCount_0f7a4 7 = .ok (.iand, 1) := by decide +kernel
set_option maxRecDepth 20000 in
theorem dJ6_bitCount_0f7a4_8 : decode cJ6_bitCount_0f7a4 8 = .ok (.isub, 1) := by decide +kernel
set_option maxRecDepth 20000 in
theorem dJ6_bitCount_0f7a4_9 : decode cJ6_bitCount_0f7a4 9 = .ok (.istore_n 0, 1) := by decide +kernel
set_option maxRecDepth 20000 in
theorem dJ6_bitCount_0f7a4_10 : decode cJ6_bitCount_0f7a4 10 = .ok (.iload_n 0, 1) := by decide +kernel
set_option maxRecDepth 20000 in
theorem dJ6_bitCount_0f7a4_11 : decode cJ6_bitCount_0f7a4 11 = .ok (.ldc_w 266, 3) := by decide +kernel
set_option maxRecDepth 20000 in
theorem dJ6_bitCount_0f7a4_14 : decode cJ6_bitCount_0f7a4 14 = .ok (.iand, 1) := by decide +kernel
set_option maxRecDepth 20000 in
theorem dJ6_bitCount_0f7a4_15 : decode cJ6_bitCount_0f7a4 15 = .ok (.iload_n 0, 1) := by decide +kernel
set_option maxRecDepth 20000 in
theorem dJ6_bitCount_0f7a4_16 : decode cJ6_bitCount_0f7a4 16 = .ok (.iconst 2, 1) := by decide +kernel
set_option maxRecDepth 20000 in
theorem dJ6_bitCount_0f7a4_17 : decode cJ6_bitCount_0f7a4 17 = .ok (.iushr, 1) := by decide +kernel
set_option maxRecDepth 20000 in
theorem dJ6_bitCount_0f7a4_18 : decode cJ6_bitCount_0f7a4 18 = .ok (.ldc_w 266, 3) := by decide +kernel
set_option maxRecDepth 20000 in
theorem dJ6_bitCount_0f7a4_21 : decode cJ6_bitCount_0f7a4 21 = .ok (.iand, 1) := by decide +kernel
set_option maxRecDepth 20000 in
theorem dJ6_bitCount_0f7a4_22 : decode cJ6_bitCount_0f7a4 22 = .ok (.iadd, 1) := by decide +kernel
set_option maxRecDepth 20000 in
theorem dJ6_bitCount_0f7a4_23 : decode cJ6_bitCount_0f7a4 23 = .ok (.istore_n 0, 1) := by decide +kernel
set_option maxRecDepth 20000 in
theorem dJ6_bitCount_0f7a4_24 : decode cJ6_bitCount_0f7a4 24 = .ok (.iload_n 0, 1) := by decide +kernel
set_option maxRecDepth 20000 in
theorem dJ6_bitCount_0f7a4_25 : decode cJ6_bitCount_0f7a4 25 = .ok (.iload_n 0, 1) := by decide +kernel
set_option maxRecDepth 20000 in
theorem dJ6_bitCount_0f7a4_26 : decode cJ6_bitCount_0f7a4 26 = .ok (.iconst 4, 1) := by decide +kernel
set_option maxRecDepth 20000 in
theorem dJ6_bitCount_0f7a4_27 : decode cJ6_bitCount_0f7a4 27 = .ok (.iushr, 1) := by decide +kernel
set_option maxRecDepth 20000 in
theorem dJ6_bitCount_0f7a4_28 : decode cJ6_bitCount_0f7a4 28 = .ok (.iadd, 1) := by decide +kernel
set_option maxRecDepth 20000 in
theorem dJ6_bitCount_0f7a4_29 : decode cJ6_bitCount_0f7a4 29 = .ok (.ldc_w 267, 3) := by decide +kernel
set_option maxRecDepth 20000 in
theorem dJ6_bitCount_0f7a4_32 : decode cJ6_bitCount_0f7a4 32 = .ok (.iand, 1) := by decide +kernel
set_option maxRecDepth 20000 in
theorem dJ6_bitCount_0f7a4_33 : decode cJ6_bitCount_0f7a4 33 = .ok (.istore_n 0, 1) := by decide +kernel
set_option maxRecDepth 20000 in
theorem dJ6_bitCount_0f7a4_34 : decode cJ6_bitCount_0f7a4 34 = .ok (.iload_n 0, 1) := by decide +kernel
set_option maxRecDepth 20000 in
theorem dJ6_bitCount_0f7a4_35 : decode cJ6_bitCount_0f7a4 35 = .ok (.iload_n 0, 1) := by decide +kernel
set_option maxRecDepth 20000 in
theorem dJ6_bitCount_0f7a4_36 : decode cJ6_bitCount_0f7a4 36 = .ok (.bipush 8, 2) := by decide +kernel
set_option maxRecDepth 20000 in
theorem dJ6_bitCount_0f7a4_38 : decode cJ6_bitCount_0f7a4 38 = .ok (.iushr, 1) := by decide +kernel
set_option maxRecDepth 20000 in
theorem dJ6_bitCount_0f7a4_39 : decode cJ6_bitCount_0f7a4 39 = .ok (.iadd, 1) := by decide +kernel
set_option maxRecDepth 20000 in
theorem dJ6_bitCount_0f7a4_40 : decode cJ6_bitCount_0f7a4 40 = .ok (.istore_n 0, 1) := by decide +kernel
set_option maxRecDepth 20000 in
theorem dJ6_bitCount_0f7a4_41 : decode cJ6_bitCount_0f7a4 41 = .ok (.iload_n 0, 1) := by decide +kernel
set_option maxRecDepth 20000 in
theorem dJ6_bitCount_0f7a4_42 : decode cJ6_bitCount_0f7a4 42 = .ok (.iload_n 0, 1) := by decide +kernel
set_option maxRecDepth 20000 in
theorem dJ6_bitCount_0f7a4_43 : decode cJ6_bitCount_0f7a4 43 = .ok (.bipush 16, 2) := by decide +kernel
set_option maxRecDepth 20000 in
theorem dJ6_bitCount_0f7a4_45 : decode cJ6_bitCount_0f7a4 45 = .ok (.iushr, 1) := by decide +kernel
set_option maxRecDepth 20000 in
theorem dJ6_bitCount_0f7a4_46 : decode cJ6_bitCount_0f7a4 46 = .ok (.iadd, 1) := by decide +kernel
set_option maxRecDepth 20000 in
theorem dJ6_bitCount_0f7a4_47 : decode cJ6_bitCount_0f7a4 47 = .ok (.istore_n 0, 1) := by decide +kernel
set_option maxRecDepth 20000 in
theorem dJ6_bitCount_0f7a4_48 : decode cJ6_bitCount_0f7a4 48 = .ok (.iload_n 0, 1) := by decide +kernel
set_option maxRecDepth 20000 in
theorem dJ6_bitCount_0f7a4_49 : decode cJ6_bitCount_0f7a4 49 = .ok (.bipush 63, 2) := by decide +kernel
set_option maxRecDepth 20000 in
theorem dJ6_bitCount_0f7a4_51 : decode cJ6_bitCount_0f7a4 51 = .ok (.iand, 1) := by decide +kernel
set_option maxRecDepth 20000 in
theorem dJ6_bitCount_0f7a4_52 : decode cJ6_bitCount_0f7a4 52 = .ok (.ireturn, 1) := by decide +kernel
set_option maxRecDepth 20000 in
theorem dJ9_max_7cf53_0 : decode cJ9_max_7cf53 0 = .ok (.iload_n 0, 1) := by decide +kernel
set_option maxRecDepth 20000 in
theorem dJ9_max_7cf53_1 : decode cJ9_max_7cf53 1 = .ok (.iload_n 1, 1) := by decide +kernel
set_option maxRecDepth 20000 in
theorem dJ9_max_7cf53_2 : decode cJ9_max_7cf53 2 = .ok (.if_icmp .lt 7, 3) := by decide +kernel
set_option maxRecDepth 20000 in
theorem dJ9_max_7cf53_5 : decode cJ9_max_7cf53 5 = .ok (.iload_n 0, 1) := by decide +kernel
set_option maxRecDepth 20000 in
theorem dJ9_max_7cf53_6 : decode cJ9_max_7cf53 6 = .ok (.goto 4, 3) := by decide +kernel
set_option maxRecDepth 20000 in
theorem dJ9_max_7cf53_9 : decode cJ9_max_7cf53 9 = .ok (.iload_n 1, 1) := by decide +kernel
set_option maxRecDepth 20000 in
theorem dJ9_max_7cf53_10 : decode cJ9_max_7cf53 10 = .ok (.ireturn, 1) := by decide +kernel
set_option maxRecDepth 20000 in
theorem dJ9_min_7cf53_0 : decode cJ9_min_7cf53 0 = .ok (.iload_n 0, 1) := by decide +kernel
set_option maxRecDepth 20000 in
theorem dJ9_min_7cf53_1 : decode cJ9_min_7cf53 1 = .ok (.iload_n 1, 1) := by decide +kernel
set_option maxRecDepth 20000 in
theorem dJ9_min_7cf53_2 : decode cJ9_min_7cf53 2 = .ok (.if_icmp .gt 7, 3) := by decide +kernel
set_option maxRecDepth 20000 in
theorem dJ9_min_7cf53_5 : decode cJ9_min_7cf53 5 = .ok (.iload_n 0, 1) := by decide +kernel
set_option maxRecDepth 20000 in
theorem dJ9_min_7cf53_6 : decode cJ9_min_7cf53 6 = .ok (.goto 4, 3) := by decide +kernel
set_option maxRecDepth 20000 in
theorem dJ9_min_7cf53_9 : decode cJ9_min_7cf53 9 = .ok (.iload_n 1, 1) := by decide +kernel
set_option maxRecDepth 20000 in
theorem dJ9_min_7cf53_10 : decode cJ9_min_7cf53 10 = .ok (.ireturn, 1) := by decide +kernel
