set_option maxRecDepth 20000 in
theorem dX7_init_0 : decode cX7_init 0 = .ok (.aload_n 0, 1) := by decide +kernel
set_option maxRecDepth 20000 in
theorem dX7_init_1 : decode cX7_init 1 = .ok (.invokespecial 1, 3) := by decide +kernel
set_option maxRecDepth 20000 in
theorem dX7_init_4 : decode cX7_init 4 = .ok (.aload_n 0, 1) := by decide +kernel
set_option maxRecDepth 20000 in
theorem dX7_init_5 : decode cX7_init 5 = .ok (.iconst 4, 1) := by decide +kernel
set_option maxRecDepth 20000 in
theorem dX7_init_6 : decode cX7_init 6 = .ok (.putfield 7, 3) := by decide +kernel
set_option maxRecDepth 20000 in
theorem dX7_init_9 : decode cX7_init 9 = .ok (.aload_n 0, 1) := by decide +kernel
set_option maxRecDepth 20000 in
theorem dX7_init_10 : decode cX7_init 10 = .ok (.bipush 18, 2) := by decide +kernel
set_option maxRecDepth 20000 in
theorem dX7_init_12 : decode cX7_init 12 = .ok (.newarray .int, 2) := by decide +kernel
set_option maxRecDepth 20000 in
theorem dX7_init_14 : decode cX7_init 14 = .ok (.putfield 13, 3) := by decide +kernel
set_option maxRecDepth 20000 in
theorem dX7_init_17 : decode cX7_init 17 = .ok (.aload_n 0, 1) := by decide +kernel
set_option maxRecDepth 20000 in
theorem dX7_init_18 : decode cX7_init 18 = .ok (.bipush 72, 2) := by decide +kernel
set_option maxRecDepth 20000 in
theorem dX7_init_20 : decode cX7_init 20 = .ok (.newarray .int, 2) := by decide +kernel
set_option maxRecDepth 20000 in
theorem dX7_init_22 : decode cX7_init 22 = .ok (.putfield 17, 3) := by decide +kernel
set_option maxRecDepth 20000 in
theorem dX7_init_25 : decode cX7_init 25 = .ok (.aload_n 0, 1) := by decide +kernel
set_option maxRecDepth 20000 in
theorem dX7_init_26 : decode cX7_init 26 = .ok (.iconst 2, 1) := by decide +kernel
set_option maxRecDepth 20000 in
theorem dX7_init_27 : decode cX7_init 27 = .ok (.putfield 20, 3) := by decide +kernel
set_option maxRecDepth 20000 in
theorem dX7_init_30 : decode cX7_init 30 = .ok (.aload_n 0, 1) := by decide +kernel
set_option maxRecDepth 20000 in
theorem dX7_init_31 : decode cX7_init 31 = .ok (.sipush 324, 3) := by decide +kernel
set_option maxRecDepth 20000 in
theorem dX7_init_34 : decode cX7_init 34 = .ok (.newarray .int, 2) := by decide +kernel
set_option maxRecDepth 20000 in
theorem dX7_init_36 : decode cX7_init 36 = .ok (.putfield 23, 3) := by decide +kernel
set_option maxRecDepth 20000 in
theorem dX7_init_39 : decode cX7_init 39 = .ok (.aload_n 0, 1) := by decide +kernel
set_option maxRecDepth 20000 in
theorem dX7_init_40 : decode cX7_init 40 = .ok (.bipush 18, 2) := by decide +kernel
set_option maxRecDepth 20000 in
theorem dX7_init_42 : decode cX7_init 42 = .ok (.newarray .int, 2) := by decide +kernel
set_option maxRecDepth 20000 in
theorem dX7_init_44 : decode cX7_init 44 = .ok (.putfield 26, 3) := by decide +kernel
set_option maxRecDepth 20000 in
theorem dX7_init_47 : decode cX7_init 47 = .ok (.aload_n 0, 1) := by decide +kernel
set_option maxRecDepth 20000 in
theorem dX7_init_48 : decode cX7_init 48 = .ok (.bipush 18, 2) := by decide +kernel
set_option maxRecDepth 20000 in
theorem dX7_init_50 : decode cX7_init 50 = .ok (.newarray .int, 2) := by decide +kernel
set_option maxRecDepth 20000 in
theorem dX7_init_52 : decode cX7_init 52 = .ok (.putfield 29, 3) := by decide +kernel
set_option maxRecDepth 20000 in
theorem dX7_init_55 : decode cX7_init 55 = .ok (.aload_n 0, 1) := by decide +kernel
set_option maxRecDepth 20000 in
theorem dX7_init_56 : decode cX7_init 56 = .ok (.sipush 211, 3) := by decide +kernel
set_option maxRecDepth 20000 in
theorem dX7_init_59 : decode cX7_init 59 = .ok (.newarray .long, 2) := by decide +kernel
set_option maxRecDepth 20000 in
theorem dX7_init_61 : decode cX7_init 61 = .ok (.putfield 32, 3) := by decide +kernel
set_option maxRecDepth 20000 in
theorem dX7_init_64 : decode cX7_init 64 = .ok (.aload_n 0, 1) := by decide +kernel
set_option maxRecDepth 20000 in
theorem dX7_init_65 : decode cX7_init 65 = .ok (.sipush 211, 3) := by decide +kernel
set_option maxRecDepth 20000 in
theorem dX7_init_68 : decode cX7_init 68 = .ok (.newarray .long, 2) := by decide +kernel
set_option maxRecDepth 20000 in
theorem dX7_init_70 : decode cX7_init 70 = .ok (.putfield 36, 3) := by decide +kernel
set_option maxRecDepth 20000 in
theorem dX7_init_73 : decode cX7_init 73 = .ok (.aload_n 0, 1) := by decide +kernel
set_option maxRecDepth 20000 in
theorem dX7_init_74 : decode cX7_init 74 = .ok (.bipush 19, 2) := by decide +kernel
set_option maxRecDepth 20000 in
theorem dX7_init_76 : decode cX7_init 76 = .ok (.newarray .long, 2) := by decide +kernel
set_option maxRecDepth 20000 in
theorem dX7_init_78 : decode cX7_init 78 = .ok (.putfield 39, 3) := by decide +kernel
set_option maxRecDepth 20000 in
theorem dX7_init_81 : decode cX7_init 81 = .ok (.aload_n 0, 1) := by decide +kernel
set_option maxRecDepth 20000 in
theorem dX7_init_82 : decode cX7_init 82 = .ok (.bipush 18, 2) := by decide +kernel
set_option maxRecDepth 20000 in
theorem dX7_init_84 : decode cX7_init 84 = .ok (.newarray .int, 2) := by decide +kernel
set_option maxRecDepth 20000 in
theorem dX7_init_86 : decode cX7_init 86 = .ok (.putfield 42, 3) := by decide +kernel
set_option maxRecDepth 20000 in
theorem dX7_init_89 : decode cX7_init 89 = .ok (.aload_n 0, 1) := by decide +kernel
set_option maxRecDepth 20000 in
theorem dX7_init_90 : decode cX7_init 90 = .ok (.sipush 6859, 3) := by decide +kernel
set_option maxRecDepth 20000 in
theorem dX7_init_93 : decode cX7_init 93 = .ok (.newarray .long, 2) := by decide +kernel
set_option maxRecDepth 20000 in
theorem dX7_init_95 : decode cX7_init 95 = .ok (.putfield 45, 3) := by decide +kernel
set_option maxRecDepth 20000 in
theorem dX7_init_98 : decode cX7_init 98 = .ok (.aload_n 0, 1) := by decide +kernel
set_option maxRecDepth 20000 in
theorem dX7_init_99 : decode cX7_init 99 = .ok (.invokevirtual 48, 3) := by decide +kernel
set_option maxRecDepth 20000 in
theorem dX7_init_102 : decode cX7_init 102 = .ok (.return_, 1) := by decide +kernel
set_option maxRecDepth 20000 in
theorem dX7_in_0 : decode cX7_in 0 = .ok (.lload_n 0, 1) := by decide +kernel
set_option maxRecDepth 20000 in
theorem dX7_in_1 : decode cX7_in 1 = .ok (.lload_n 2, 1) := by decide +kernel
set_option maxRecDepth 20000 in
theorem dX7_in_2 : decode cX7_in 2 = .ok (.lcmp, 1) := by decide +kernel
set_option maxRecDepth 20000 in
theorem dX7_in_3 : decode cX7_in 3 = .ok (.ifCond .lt 14, 3) := by decide +kernel
set_option maxRecDepth 20000 in
theorem dX7_in_6 : decode cX7_in 6 = .ok (.lload_n 0, 1) := by decide +kernel
set_option maxRecDepth 20000 in
theorem dX7_in_7 : decode cX7_in 7 = .ok (.lload 4, 2) := by decide +kernel
set_option maxRecDepth 20000 in
theorem dX7_in_9 : decode cX7_in 9 = .ok (.lcmp, 1) := by decide +kernel
set_option maxRecDepth 20000 in
theorem dX7_in_10 : decode cX7_in 10 = .ok (.ifCond .gt 7, 3) := by decide +kernel
set_option maxRecDepth 20000 in
theorem dX7_in_13 : decode cX7_in 13 = .ok (.iconst 1, 1) := by decide +kernel
set_option maxRecDepth 20000 in
theorem dX7_in_14 : decode cX7_in 14 = .ok (.goto 4, 3) := by decide +kernel
set_option maxRecDepth 20000 in
theorem dX7_in_17 : decode cX7_in 17 = .ok (.iconst 0, 1) := by decide +kernel
set_option maxRecDepth 20000 in
theorem dX7_in_18 : decode cX7_in 18 = .ok (.ireturn, 1) := by decide +kernel
set_option maxRecDepth 20000 in
theorem dX7_begin_0 : decode cX7_begin 0 = .ok (.iconst 0, 1) := by decide +kernel
set_option maxRecDepth 20000 in
theorem dX7_begin_1 : decode cX7_begin 1 = .ok (.istore_n 1, 1) := by decide +kernel
set_option maxRecDepth 20000 in
theorem dX7_begin_2 : decode cX7_begin 2 = .ok (.iload_n 1, 1) := by decide +kernel
set_option maxRecDepth 20000 in
theorem dX7_begin_3 : decode cX7_begin 3 = .ok (.bipush 18, 2) := by decide +kernel
set_option maxRecDepth 20000 in
theorem dX7_begin_5 : decode cX7_begin 5 = .ok (.if_icmp .ge 48, 3) := by decide +kernel
set_option maxRecDepth 20000 in
theorem dX7_begin_8 : decode cX7_begin 8 = .ok (.aload_n 0, 1) := by decide +kernel
set_option maxRecDepth 20000 in
theorem dX7_begin_9 : decode cX7_begin 9 = .ok (.getfield 13, 3) := by decide +kernel
set_option maxRecDepth 20000 in
theorem dX7_begin_12 : decode cX7_begin 12 = .ok (.iload_n 1, 1) := by decide +kernel
set_option maxRecDepth 20000 in
theorem dX7_begin_13 : decode cX7_begin 13 = .ok (.iload_n 1, 1) := by decide +kernel
set_option maxRecDepth 20000 in
theorem dX7_begin_14 : decode cX7_begin 14 = .ok (.iastore, 1) := by decide +kernel
set_option maxRecDepth 20000 in
theorem dX7_begin_15 : decode cX7_begin 15 = .ok (.aload_n 0, 1) := by decide +kernel
set_option maxRecDepth 20000 in
theorem dX7_begin_16 : decode cX7_begin 16 = .ok (.getfield 26, 3) := by decide +kernel
set_option maxRecDepth 20000 in
theorem dX7_begin_19 : decode cX7_begin 19 = .ok (.iload_n 1, 1) := by decide +kernel
set_option maxRecDepth 20000 in
theorem dX7_begin_20 : decode cX7_begin 20 = .ok (.iconst 0, 1) := by decide +kernel
set_option maxRecDepth 20000 in
theorem dX7_begin_21 : decode cX7_begin 21 = .ok (.iastore, 1) := by decide +kernel
set_option maxRecDepth 20000 in
theorem dX7_begin_22 : decode cX7_begin 22 = .ok (.iconst 0, 1) := by decide +kernel
set_option maxRecDepth 20000 in
theorem dX7_begin_23 : decode cX7_begin 23 = .ok (.istore_n 2, 1) := by decide +kernel
set_option maxRecDepth 20000 in
theorem dX7_begin_24 : decode cX7_begin 24 = .ok (.iload_n 2, 1) := by decide +kernel
set_option maxRecDepth 20000 in
theorem dX7_begin_25 : decode cX7_begin 25 = .ok (.iconst 4, 1) := by decide +kernel
set_option maxRecDepth 20000 in
theorem dX7_begin_26 : decode cX7_begin 26 = .ok (.if_icmp .ge 21, 3) := by decide +kernel
set_option maxRecDepth 20000 in
theorem dX7_begin_29 : decode cX7_begin 29 = .ok (.aload_n 0, 1) := by decide +kernel
set_option maxRecDepth 20000 in
theorem dX7_begin_30 : decode cX7_begin 30 = .ok (.getfield 17, 3) := by decide +kernel
set_option maxRecDepth 20000 in
theorem dX7_begin_33 : decode cX7_begin 33 = .ok (.bipush 18, 2) := by decide +kernel
set_option maxRecDepth 20000 in
theorem dX7_begin_35 : decode cX7_begin 35 = .ok (.iload_n 2, 1) := by decide +kernel
set_option maxRecDepth 20000 in
theorem dX7_begin_36 : decode cX7_begin 36 = .ok (.imul, 1) := by decide +kernel
set_option maxRecDepth 20000 in
theorem dX7_begin_37 : decode cX7_begin 37 = .ok (.iload_n 1, 1) := by decide +kernel
set_option maxRecDepth 20000 in
theorem dX7_begin_38 : decode cX7_begin 38 = .ok (.iadd, 1) := by decide +kernel
set_option maxRecDepth 20000 in
theorem dX7_begin_39 : decode cX7_begin 39 = .ok (.iload_n 1, 1) := by decide +kernel
set_option maxRecDepth 20000 in
theorem dX7_begin_40 : decode cX7_begin 40 = .ok (.iastore, 1) := by decide +kernel
set_option maxRecDepth 20000 in
theorem dX7_begin_41 : decode cX7_begin 41 = .ok (.iinc 2 1, 3) := by decide +kernel
set_option maxRecDepth 20000 in
theorem dX7_begin_44 : decode cX7_begin 44 = .ok (.goto (-20), 3) := by decide +kernel
set_option maxRecDepth 20000 in
theorem dX7_begin_47 : decode cX7_begin 47 = .ok (.iinc 1 1, 3) := by decide +kernel
set_option maxRecDepth 20000 in
theorem dX7_begin_50 : decode cX7_begin 50 = .ok (.goto (-48), 3) := by decide +kernel
set_option maxRecDepth 20000 in
theorem dX7_begin_53 : decode cX7_begin 53 = .ok (.aload_n 0, 1) := by decide +kernel
set_option maxRecDepth 20000 in
theorem dX7_begin_54 : decode cX7_begin 54 = .ok (.aload_n 0, 1) := by decide +kernel
set_option maxRecDepth 20000 in
theorem dX7_begin_55 : decode cX7_begin 55 = .ok (.getfield 7, 3) := by decide +kernel
set_option maxRecDepth 20000 in
theorem dX7_begin_58 : decode cX7_begin 58 = .ok (.iconst 2, 1) := by decide +kernel
set_option maxRecDepth 20000 in
theorem dX7_begin_59 : decode cX7_begin 59 = .ok (.if_icmp .ge 7, 3) := by decide +kernel
set_option maxRecDepth 20000 in
theorem dX7_begin_62 : decode cX7_begin 62 = .ok (.iconst 1, 1) := by decide +kernel
set_option maxRecDepth 20000 in
theorem dX7_begin_63 : decode cX7_begin 63 = .ok (.goto 4, 3) := by decide +kernel
set_option maxRecDepth 20000 in
theorem dX7_begin_66 : decode cX7_begin 66 = .ok (.iconst 2, 1) := by decide +kernel
set_option maxRecDepth 20000 in
theorem dX7_begin_67 : decode cX7_begin 67 = .ok (.putfield 20, 3) := by decide +kernel
set_option maxRecDepth 20000 in
theorem dX7_begin_70 : decode cX7_begin 70 = .ok (.return_, 1) := by decide +kernel
set_option maxRecDepth 20000 in
theorem dX7_isThing_0 : decode cX7_isThing 0 = .ok (.iload_n 1, 1) := by decide +kernel
set_option maxRecDepth 20000 in
theorem dX7_isThing_1 : decode cX7_isThing 1 = .ok (.i2l, 1) := by decide +kernel
set_option maxRecDepth 20000 in
theorem dX7_isThing_2 : decode cX7_isThing 2 = .ok (.lconst 0, 1) := by decide +kernel
set_option maxRecDepth 20000 in
theorem dX7_isThing_3 : decode cX7_isThing 3 = .ok (.aload_n 0, 1) := by decide +kernel
set_option maxRecDepth 20000 in
theorem dX7_isThing_4 : decode cX7_isThing 4 = .ok (.getfield 7, 3) := by decide +kernel
set_option maxRecDepth 20000 in
theorem dX7_isThing_7 : decode cX7_isThing 7 = .ok (.iconst 1, 1) := by decide +kernel
set_option maxRecDepth 20000 in
theorem dX7_isThing_8 : decode cX7_isThing 8 = .ok (.isub, 1) := by decide +kernel
set_option maxRecDepth 20000 in
theorem dX7_isThing_9 : decode cX7_isThing 9 = .ok (.i2l, 1) := by decide +kernel
set_option maxRecDepth 20000 in
theorem dX7_isThing_10 : decode cX7_isThing 10 = .ok (.invokestatic 51, 3) := by decide +kernel
set_option maxRecDepth 20000 in
theorem dX7_isThing_13 : decode cX7_isThing 13 = .ok (.ireturn, 1) := by decide +kernel
set_option maxRecDepth 20000 in
theorem dX7_things_0 : decode cX7_things 0 = .ok (.iload_n 1, 1) := by decide +kernel
set_option maxRecDepth 20000 in
theorem dX7_things_1 : decode cX7_things 1 = .ok (.i2l, 1) := by decide +kernel
set_option maxRecDepth 20000 in
theorem dX7_things_2 : decode cX7_things 2 = .ok (.lconst 1, 1) := by decide +kernel
set_option maxRecDepth 20000 in
theorem dX7_things_3 : decode cX7_things 3 = .ok (.ldc2_w 55, 3) := by decide +kernel
set_option maxRecDepth 20000 in
theorem dX7_things_6 : decode cX7_things 6 = .ok (.invokestatic 51, 3) := by decide +kernel
set_option maxRecDepth 20000 in
theorem dX7_things_9 : decode cX7_things 9 = .ok (.ifCond .ne 6, 3) := by decide +kernel
set_option maxRecDepth 20000 in
theorem dX7_things_12 : decode cX7_things 12 = .ok (.bipush (-2), 2) := by decide +kernel
set_option maxRecDepth 20000 in
theorem dX7_things_14 : decode cX7_things 14 = .ok (.ireturn, 1) := by decide +kernel
set_option maxRecDepth 20000 in
theorem dX7_things_15 : decode cX7_things 15 = .ok (.aload_n 0, 1) := by decide +kernel
set_option maxRecDepth 20000 in
theorem dX7_things_16 : decode cX7_things 16 = .ok (.iload_n 1, 1) := by decide +kernel
set_option maxRecDepth 20000 in
theorem dX7_things_17 : decode cX7_things 17 = .ok (.putfield 7, 3) := by decide +kernel
set_option maxRecDepth 20000 in
theorem dX7_things_20 : decode cX7_things 20 = .ok (.aload_n 0, 1) := by decide +kernel
set_option maxRecDepth 20000 in
theorem dX7_things_21 : decode cX7_things 21 = .ok (.invokevirtual 48, 3) := by decide +kernel
set_option maxRecDepth 20000 in
theorem dX7_things_24 : decode cX7_things 24 = .ok (.iconst 1, 1) := by decide +kernel
set_option maxRecDepth 20000 in
theorem dX7_things_25 : decode cX7_things 25 = .ok (.ireturn, 1) := by decide +kernel
set_option maxRecDepth 20000 in
theorem dX7_become_0 : decode cX7_become 0 = .ok (.iconst 0, 1) := by decide +kernel
set_option maxRecDepth 20000 in
theorem dX7_become_1 : decode cX7_become 1 = .ok (.istore_n 1, 1) := by decide +kernel
set_option maxRecDepth 20000 in
theorem dX7_become_2 : decode cX7_become 2 = .ok (.iload_n 1, 1) := by decide +kernel
set_option maxRecDepth 20000 in
theorem dX7_become_3 : decode cX7_become 3 = .ok (.aload_n 0, 1) := by decide +kernel
set_option maxRecDepth 20000 in
theorem dX7_become_4 : decode cX7_become 4 = .ok (.getfield 7, 3) := by decide +kernel
set_option maxRecDepth 20000 in
theorem dX7_become_7 : decode cX7_become 7 = .ok (.if_icmp .ge 21, 3) := by decide +kernel
set_option maxRecDepth 20000 in
theorem dX7_become_10 : decode cX7_become 10 = .ok (.aload_n 0, 1) := by decide +kernel
set_option maxRecDepth 20000 in
theorem dX7_become_11 : decode cX7_become 11 = .ok (.getfield 13, 3) := by decide +kernel
set_option maxRecDepth 20000 in
theorem dX7_become_14 : decode cX7_become 14 = .ok (.iload_n 1, 1) := by decide +kernel
set_option maxRecDepth 20000 in
theorem dX7_become_15 : decode cX7_become 15 = .ok (.aload_n 0, 1) := by decide +kernel
set_option maxRecDepth 20000 in
theorem dX7_become_16 : decode cX7_become 16 = .ok (.getfield 29, 3) := by decide +kernel
set_option maxRecDepth 20000 in
theorem dX7_become_19 : decode cX7_become 19 = .ok (.iload_n 1, 1) := by decide +kernel
set_option maxRecDepth 20000 in
theorem dX7_become_20 : decode cX7_become 20 = .ok (.iaload, 1) := by decide +kernel
set_option maxRecDepth 20000 in
theorem dX7_become_21 : decode cX7_become 21 = .ok (.iastore, 1) := by decide +kernel
set_option maxRecDepth 20000 in
theorem dX7_become_22 : decode cX7_become 22 = .ok (.iinc 1 1, 3) := by decide +kernel
set_option maxRecDepth 20000 in
theorem dX7_become_25 : decode cX7_become 25 = .ok (.goto (-23), 3) := by decide +kernel
set_option maxRecDepth 20000 in
theorem dX7_become_28 : decode cX7_become 28 = .ok (.return_, 1) := by decide +kernel
set_option maxRecDepth 20000 in
theorem dX7_order_0 : decode cX7_order 0 = .ok (.lload_n 1, 1) := by decide +kernel
set_option maxRecDepth 20000 in
theorem dX7_order_1 : decode cX7_order 1 = .ok (.lconst 0, 1) := by decide +kernel
set_option maxRecDepth 20000 in
theorem dX7_order_2 : decode cX7_order 2 = .ok (.lcmp, 1) := by decide +kernel
set_option maxRecDepth 20000 in
theorem dX7_order_3 : decode cX7_order 3 = .ok (.ifCond .lt 9, 3) := by decide +kernel
set_option maxRecDepth 20000 in
theorem dX7_order_6 : decode cX7_order 6 = .ok (.lload_n 3, 1) := by decide +kernel
set_option maxRecDepth 20000 in
theorem dX7_order_7 : decode cX7_order 7 = .ok (.lconst 0, 1) := by decide +kernel
set_option maxRecDepth 20000 in
theorem dX7_order_8 : decode cX7_order 8 = .ok (.lcmp, 1) := by decide +kernel
set_option maxRecDepth 20000 in
theorem dX7_order_9 : decode cX7_order 9 = .ok (.ifCond .ge 6, 3) := by decide +kernel
set_option maxRecDepth 20000 in
theorem dX7_order_12 : decode cX7_order 12 = .ok (.bipush (-2), 2) := by decide +kernel
set_option maxRecDepth 20000 in
theorem dX7_order_14 : decode cX7_order 14 = .ok (.ireturn, 1) := by decide +kernel
set_option maxRecDepth 20000 in
theorem dX7_order_15 : decode cX7_order 15 = .ok (.lload_n 1, 1) := by decide +kernel
set_option maxRecDepth 20000 in
theorem dX7_order_16 : decode cX7_order 16 = .ok (.lstore 5, 2) := by decide +kernel
set_option maxRecDepth 20000 in
theorem dX7_order_18 : decode cX7_order 18 = .ok (.lload_n 3, 1) := by decide +kernel
set_option maxRecDepth 20000 in
theorem dX7_order_19 : decode cX7_order 19 = .ok (.lstore 7, 2) := by decide +kernel
set_option maxRecDepth 20000 in
theorem dX7_order_21 : decode cX7_order 21 = .ok (.iconst 0, 1) := by decide +kernel
set_option maxRecDepth 20000 in
theorem dX7_order_22 : decode cX7_order 22 = .ok (.istore 9, 2) := by decide +kernel
set_option maxRecDepth 20000 in
theorem dX7_order_24 : decode cX7_order 24 = .ok (.iconst 0, 1) := by decide +kernel
set_option maxRecDepth 20000 in
theorem dX7_order_25 : decode cX7_order 25 = .ok (.istore 10, 2) := by decide +kernel
set_option maxRecDepth 20000 in
theorem dX7_order_27 : decode cX7_order 27 = .ok (.iload 10, 2) := by decide +kernel
set_option maxRecDepth 20000 in
theorem dX7_order_29 : decode cX7_order 29 = .ok (.aload_n 0, 1) := by decide +kernel
set_option maxRecDepth 20000 in
theorem dX7_order_30 : decode cX7_order 30 = .ok (.getfield 7, 3) := by decide +kernel
set_option maxRecDepth 20000 in
theorem dX7_order_33 : decode cX7_order 33 = .ok (.if_icmp .ge 93, 3) := by decide +kernel
set_option maxRecDepth 20000 in
theorem dX7_order_36 : decode cX7_order 36 = .ok (.aload_n 0, 1) := by decide +kernel
set_option maxRecDepth 20000 in
theorem dX7_order_37 : decode cX7_order 37 = .ok (.getfield 29, 3) := by decide +kernel
set_option maxRecDepth 20000 in
theorem dX7_order_40 : decode cX7_order 40 = .ok (.iload 10, 2) := by decide +kernel
set_option maxRecDepth 20000 in
theorem dX7_order_42 : decode cX7_order 42 = .ok (.iload 10, 2) := by decide +kernel
set_option maxRecDepth 20000 in
theorem dX7_order_44 : decode cX7_order 44 = .ok (.bipush 9, 2) := by decide +kernel
set_option maxRecDepth 20000 in
theorem dX7_order_46 : decode cX7_order 46 = .ok (.if_icmp .ge 12, 3) := by decide +kernel
set_option maxRecDepth 20000 in
theorem dX7_order_49 : decode cX7_order 49 = .ok (.lload 5, 2) := by decide +kernel
set_option maxRecDepth 20000 in
theorem dX7_order_51 : decode cX7_order 51 = .ok (.ldc2_w 55, 3) := by decide +kernel
set_option maxRecDepth 20000 in
theorem dX7_order_54 : decode cX7_order 54 = .ok (.lrem, 1) := by decide +kernel
set_option maxRecDepth 20000 in
theorem dX7_order_55 : decode cX7_order 55 = .ok (.goto 9, 3) := by decide +kernel
set_option maxRecDepth 20000 in
theorem dX7_order_58 : decode cX7_order 58 = .ok (.lload 7, 2) := by decide +kernel
set_option maxRecDepth 20000 in
theorem dX7_order_60 : decode cX7_order 60 = .ok (.ldc2_w 55, 3) := by decide +kernel
set_option maxRecDepth 20000 in
theorem dX7_order_63 : decode cX7_order 63 = .ok (.lrem, 1) := by decide +kernel
set_option maxRecDepth 20000 in
theorem dX7_order_64 : decode cX7_order 64 = .ok (.l2i, 1) := by decide +kernel
set_option maxRecDepth 20000 in
theorem dX7_order_65 : decode cX7_order 65 = .ok (.iastore, 1) := by decide +kernel
set_option maxRecDepth 20000 in
theorem dX7_order_66 : decode cX7_order 66 = .ok (.iload 10, 2) := by decide +kernel
set_option maxRecDepth 20000 in
theorem dX7_order_68 : decode cX7_order 68 = .ok (.bipush 9, 2) := by decide +kernel
set_option maxRecDepth 20000 in
theorem dX7_order_70 : decode cX7_order 70 = .ok (.if_icmp .ge 12, 3) := by decide +kernel
set_option maxRecDepth 20000 in
theorem dX7_order_73 : decode cX7_order 73 = .ok (.lload 5, 2) := by decide +kernel
set_option maxRecDepth 20000 in
theorem dX7_order_75 : decode cX7_order 75 = .ok (.ldc2_w 55, 3) := by decide +kernel
set_option maxRecDepth 20000 in
theorem dX7_order_78 : decode cX7_order 78 = .ok (.ldiv, 1) := by decide +kernel
set_option maxRecDepth 20000 in
theorem dX7_order_79 : decode cX7_order 79 = .ok (.goto 5, 3) := by decide +kernel
set_option maxRecDepth 20000 in
theorem dX7_order_82 : decode cX7_order 82 = .ok (.lload 5, 2) := by decide +kernel
set_option maxRecDepth 20000 in
theorem dX7_order_84 : decode cX7_order 84 = .ok (.lstore 5, 2) := by decide +kernel
set_option maxRecDepth 20000 in
theorem dX7_order_86 : decode cX7_order 86 = .ok (.iload 10, 2) := by decide +kernel
set_option maxRecDepth 20000 in
theorem dX7_order_88 : decode cX7_order 88 = .ok (.bipush 9, 2) := by decide +kernel
set_option maxRecDepth 20000 in
theorem dX7_order_90 : decode cX7_order 90 = .ok (.if_icmp .ge 8, 3) := by decide +kernel
set_option maxRecDepth 20000 in
theorem dX7_order_93 : decode cX7_order 93 = .ok (.lload 7, 2) := by decide +kernel
set_option maxRecDepth 20000 in
theorem dX7_order_95 : decode cX7_order 95 = .ok (.goto 9, 3) := by decide +kernel
set_option maxRecDepth 20000 in
theorem dX7_order_98 : decode cX7_order 98 = .ok (.lload 7, 2) := by decide +kernel
set_option maxRecDepth 20000 in
theorem dX7_order_100 : decode cX7_order 100 = .ok (.ldc2_w 55, 3) := by decide +kernel
set_option maxRecDepth 20000 in
theorem dX7_order_103 : decode cX7_order 103 = .ok (.ldiv, 1) := by decide +kernel
set_option maxRecDepth 20000 in
theorem dX7_order_104 : decode cX7_order 104 = .ok (.lstore 7, 2) := by decide +kernel
set_option maxRecDepth 20000 in
theorem dX7_order_106 : decode cX7_order 106 = .ok (.iload 9, 2) := by decide +kernel
set_option maxRecDepth 20000 in
theorem dX7_order_108 : decode cX7_order 108 = .ok (.iconst 1, 1) := by decide +kernel
set_option maxRecDepth 20000 in
theorem dX7_order_109 : decode cX7_order 109 = .ok (.aload_n 0, 1) := by decide +kernel
set_option maxRecDepth 20000 in
theorem dX7_order_110 : decode cX7_order 110 = .ok (.getfield 29, 3) := by decide +kernel
set_option maxRecDepth 20000 in
theorem dX7_order_113 : decode cX7_order 113 = .ok (.iload 10, 2) := by decide +kernel
set_option maxRecDepth 20000 in
theorem dX7_order_115 : decode cX7_order 115 = .ok (.iaload, 1) := by decide +kernel
set_option maxRecDepth 20000 in
theorem dX7_order_116 : decode cX7_order 116 = .ok (.ishl, 1) := by decide +kernel
set_option maxRecDepth 20000 in
theorem dX7_order_117 : decode cX7_order 117 = .ok (.ior, 1) := by decide +kernel
set_option maxRecDepth 20000 in
theorem dX7_order_118 : decode cX7_order 118 = .ok (.istore 9, 2) := by decide +kernel
set_option maxRecDepth 20000 in
theorem dX7_order_120 : decode cX7_order 120 = .ok (.iinc 10 1, 3) := by decide +kernel
set_option maxRecDepth 20000 in
theorem dX7_order_123 : decode cX7_order 123 = .ok (.goto (-96), 3) := by decide +kernel
set_option maxRecDepth 20000 in
theorem dX7_order_126 : decode cX7_order 126 = .ok (.lload 5, 2) := by decide +kernel
set_option maxRecDepth 20000 in
theorem dX7_order_128 : decode cX7_order 128 = .ok (.lconst 0, 1) := by decide +kernel
set_option maxRecDepth 20000 in
theorem dX7_order_129 : decode cX7_order 129 = .ok (.lcmp, 1) := by decide +kernel
set_option maxRecDepth 20000 in
theorem dX7_order_130 : decode cX7_order 130 = .ok (.ifCond .ne 23, 3) := by decide +kernel
set_option maxRecDepth 20000 in
theorem dX7_order_133 : decode cX7_order 133 = .ok (.lload 7, 2) := by decide +kernel
set_option maxRecDepth 20000 in
theorem dX7_order_135 : decode cX7_order 135 = .ok (.lconst 0, 1) := by decide +kernel
set_option maxRecDepth 20000 in
theorem dX7_order_136 : decode cX7_order 136 = .ok (.lcmp, 1) := by decide +kernel
set_option maxRecDepth 20000 in
theorem dX7_order_137 : decode cX7_order 137 = .ok (.ifCond .ne 16, 3) := by decide +kernel
set_option maxRecDepth 20000 in
theorem dX7_order_140 : decode cX7_order 140 = .ok (.iload 9, 2) := by decide +kernel
set_option maxRecDepth 20000 in
theorem dX7_order_142 : decode cX7_order 142 = .ok (.iconst 1, 1) := by decide +kernel
set_option maxRecDepth 20000 in
theorem dX7_order_143 : decode cX7_order 143 = .ok (.aload_n 0, 1) := by decide +kernel
set_option maxRecDepth 20000 in
theorem dX7_order_144 : decode cX7_order 144 = .ok (.getfield 7, 3) := by decide +kernel
set_option maxRecDepth 20000 in
theorem dX7_order_147 : decode cX7_order 147 = .ok (.ishl, 1) := by decide +kernel
set_option maxRecDepth 20000 in
theorem dX7_order_148 : decode cX7_order 148 = .ok (.iconst 1, 1) := by decide +kernel
set_option maxRecDepth 20000 in
theorem dX7_order_149 : decode cX7_order 149 = .ok (.isub, 1) := by decide +kernel
set_option maxRecDepth 20000 in
theorem dX7_order_150 : decode cX7_order 150 = .ok (.if_icmp .eq 6, 3) := by decide +kernel
set_option maxRecDepth 20000 in
theorem dX7_order_153 : decode cX7_order 153 = .ok (.bipush (-2), 2) := by decide +kernel
set_option maxRecDepth 20000 in
theorem dX7_order_155 : decode cX7_order 155 = .ok (.ireturn, 1) := by decide +kernel
set_option maxRecDepth 20000 in
theorem dX7_order_156 : decode cX7_order 156 = .ok (.aload_n 0, 1) := by decide +kernel
set_option maxRecDepth 20000 in
theorem dX7_order_157 : decode cX7_order 157 = .ok (.invokevirtual 57, 3) := by decide +kernel
set_option maxRecDepth 20000 in
theorem dX7_order_160 : decode cX7_order 160 = .ok (.iconst 1, 1) := by decide +kernel
set_option maxRecDepth 20000 in
theorem dX7_order_161 : decode cX7_order 161 = .ok (.ireturn, 1) := by decide +kernel
set_option maxRecDepth 20000 in
theorem dX7_at_0 : decode cX7_at 0 = .ok (.aload_n 0, 1) := by decide +kernel
set_option maxRecDepth 20000 in
theorem dX7_at_1 : decode cX7_at 1 = .ok (.iload_n 1, 1) := by decide +kernel
set_option maxRecDepth 20000 in
theorem dX7_at_2 : decode cX7_at 2 = .ok (.invokevirtual 60, 3) := by decide +kernel
set_option maxRecDepth 20000 in
theorem dX7_at_5 : decode cX7_at 5 = .ok (.ifCond .eq 12, 3) := by decide +kernel
set_option maxRecDepth 20000 in
theorem dX7_at_8 : decode cX7_at 8 = .ok (.aload_n 0, 1) := by decide +kernel
set_option maxRecDepth 20000 in
theorem dX7_at_9 : decode cX7_at 9 = .ok (.getfield 13, 3) := by decide +kernel
set_option maxRecDepth 20000 in
theorem dX7_at_12 : decode cX7_at 12 = .ok (.iload_n 1, 1) := by decide +kernel
set_option maxRecDepth 20000 in
theorem dX7_at_13 : decode cX7_at 13 = .ok (.iaload, 1) := by decide +kernel
set_option maxRecDepth 20000 in
theorem dX7_at_14 : decode cX7_at 14 = .ok (.goto 5, 3) := by decide +kernel
set_option maxRecDepth 20000 in
theorem dX7_at_17 : decode cX7_at 17 = .ok (.bipush (-2), 2) := by decide +kernel
set_option maxRecDepth 20000 in
theorem dX7_at_19 : decode cX7_at 19 = .ok (.ireturn, 1) := by decide +kernel
set_option maxRecDepth 20000 in
theorem dX7_swap_0 : decode cX7_swap 0 = .ok (.aload_n 0, 1) := by decide +kernel
set_option maxRecDepth 20000 in
theorem dX7_swap_1 : decode cX7_swap 1 = .ok (.iload_n 1, 1) := by decide +kernel
set_option maxRecDepth 20000 in
theorem dX7_swap_2 : decode cX7_swap 2 = .ok (.invokevirtual 60, 3) := by decide +kernel
set_option maxRecDepth 20000 in
theorem dX7_swap_5 : decode cX7_swap 5 = .ok (.ifCond .eq 11, 3) := by decide +kernel
set_option maxRecDepth 20000 in
theorem dX7_swap_8 : decode cX7_swap 8 = .ok (.aload_n 0, 1) := by decide +kernel
set_option maxRecDepth 20000 in
theorem dX7_swap_9 : decode cX7_swap 9 = .ok (.iload_n 2, 1) := by decide +kernel
set_option maxRecDepth 20000 in
theorem dX7_swap_10 : decode cX7_swap 10 = .ok (.invokevirtual 60, 3) := by decide +kernel
set_option maxRecDepth 20000 in
theorem dX7_swap_13 : decode cX7_swap 13 = .ok (.ifCond .ne 6, 3) := by decide +kernel
set_option maxRecDepth 20000 in
theorem dX7_swap_16 : decode cX7_swap 16 = .ok (.bipush (-2), 2) := by decide +kernel
set_option maxRecDepth 20000 in
theorem dX7_swap_18 : decode cX7_swap 18 = .ok (.ireturn, 1) := by decide +kernel
set_option maxRecDepth 20000 in
theorem dX7_swap_19 : decode cX7_swap 19 = .ok (.aload_n 0, 1) := by decide +kernel
set_option maxRecDepth 20000 in
theorem dX7_swap_20 : decode cX7_swap 20 = .ok (.getfield 13, 3) := by decide +kernel
set_option maxRecDepth 20000 in
theorem dX7_swap_23 : decode cX7_swap 23 = .ok (.iload_n 1, 1) := by decide +kernel
set_option maxRecDepth 20000 in
theorem dX7_swap_24 : decode cX7_swap 24 = .ok (.iaload, 1) := by decide +kernel
set_option maxRecDepth 20000 in
theorem dX7_swap_25 : decode cX7_swap 25 = .ok (.istore_n 3, 1) := by decide +kernel
set_option maxRecDepth 20000 in
theorem dX7_swap_26 : decode cX7_swap 26 = .ok (.aload_n 0, 1) := by decide +kernel
set_option maxRecDepth 20000 in
theorem dX7_swap_27 : decode cX7_swap 27 = .ok (.getfield 13, 3) := by decide +kernel
set_option maxRecDepth 20000 in
theorem dX7_swap_30 : decode cX7_swap 30 = .ok (.iload_n 1, 1) := by decide +kernel
set_option maxRecDepth 20000 in
theorem dX7_swap_31 : decode cX7_swap 31 = .ok (.aload_n 0, 1) := by decide +kernel
set_option maxRecDepth 20000 in
theorem dX7_swap_32 : decode cX7_swap 32 = .ok (.getfield 13, 3) := by decide +kernel
set_option maxRecDepth 20000 in
theorem dX7_swap_35 : decode cX7_swap 35 = .ok (.iload_n 2, 1) := by decide +kernel
set_option maxRecDepth 20000 in
theorem dX7_swap_36 : decode cX7_swap 36 = .ok (.iaload, 1) := by decide +kernel
set_option maxRecDepth 20000 in
theorem dX7_swap_37 : decode cX7_swap 37 = .ok (.iastore, 1) := by decide +kernel
set_option maxRecDepth 20000 in
theorem dX7_swap_38 : decode cX7_swap 38 = .ok (.aload_n 0, 1) := by decide +kernel
set_option maxRecDepth 20000 in
theorem dX7_swap_39 : decode cX7_swap 39 = .ok (.getfield 13, 3) := by decide +kernel
set_option maxRecDepth 20000 in
theorem dX7_swap_42 : decode cX7_swap 42 = .ok (.iload_n 2, 1) := by decide +kernel
set_option maxRecDepth 20000 in
theorem dX7_swap_43 : decode cX7_swap 43 = .ok (.iload_n 3, 1) := by decide +kernel
set_option maxRecDepth 20000 in
theorem dX7_swap_44 : decode cX7_swap 44 = .ok (.iastore, 1) := by decide +kernel
set_option maxRecDepth 20000 in
theorem dX7_swap_45 : decode cX7_swap 45 = .ok (.iconst 1, 1) := by decide +kernel
set_option maxRecDepth 20000 in
theorem dX7_swap_46 : decode cX7_swap 46 = .ok (.ireturn, 1) := by decide +kernel
set_option maxRecDepth 20000 in
theorem dX7_lay_0 : decode cX7_lay 0 = .ok (.iload_n 1, 1) := by decide +kernel
set_option maxRecDepth 20000 in
theorem dX7_lay_1 : decode cX7_lay 1 = .ok (.i2l, 1) := by decide +kernel
set_option maxRecDepth 20000 in
theorem dX7_lay_2 : decode cX7_lay 2 = .ok (.lconst 0, 1) := by decide +kernel
set_option maxRecDepth 20000 in
theorem dX7_lay_3 : decode cX7_lay 3 = .ok (.ldc2_w 64, 3) := by decide +kernel
set_option maxRecDepth 20000 in
theorem dX7_lay_6 : decode cX7_lay 6 = .ok (.invokestatic 51, 3) := by decide +kernel
set_option maxRecDepth 20000 in
theorem dX7_lay_9 : decode cX7_lay 9 = .ok (.ifCond .ne 6, 3) := by decide +kernel
set_option maxRecDepth 20000 in
theorem dX7_lay_12 : decode cX7_lay 12 = .ok (.bipush (-2), 2) := by decide +kernel
set_option maxRecDepth 20000 in
theorem dX7_lay_14 : decode cX7_lay 14 = .ok (.ireturn, 1) := by decide +kernel
set_option maxRecDepth 20000 in
theorem dX7_lay_15 : decode cX7_lay 15 = .ok (.iconst 0, 1) := by decide +kernel
set_option maxRecDepth 20000 in
theorem dX7_lay_16 : decode cX7_lay 16 = .ok (.istore_n 2, 1) := by decide +kernel
set_option maxRecDepth 20000 in
theorem dX7_lay_17 : decode cX7_lay 17 = .ok (.iload_n 2, 1) := by decide +kernel
set_option maxRecDepth 20000 in
theorem dX7_lay_18 : decode cX7_lay 18 = .ok (.aload_n 0, 1) := by decide +kernel
set_option maxRecDepth 20000 in
theorem dX7_lay_19 : decode cX7_lay 19 = .ok (.getfield 7, 3) := by decide +kernel
set_option maxRecDepth 20000 in
theorem dX7_lay_22 : decode cX7_lay 22 = .ok (.if_icmp .ge 26, 3) := by decide +kernel
set_option maxRecDepth 20000 in
theorem dX7_lay_25 : decode cX7_lay 25 = .ok (.aload_n 0, 1) := by decide +kernel
set_option maxRecDepth 20000 in
theorem dX7_lay_26 : decode cX7_lay 26 = .ok (.getfield 17, 3) := by decide +kernel
set_option maxRecDepth 20000 in
theorem dX7_lay_29 : decode cX7_lay 29 = .ok (.bipush 18, 2) := by decide +kernel
set_option maxRecDepth 20000 in
theorem dX7_lay_31 : decode cX7_lay 31 = .ok (.iload_n 1, 1) := by decide +kernel
set_option maxRecDepth 20000 in
theorem dX7_lay_32 : decode cX7_lay 32 = .ok (.imul, 1) := by decide +kernel
set_option maxRecDepth 20000 in
theorem dX7_lay_33 : decode cX7_lay 33 = .ok (.iload_n 2, 1) := by decide +kernel
set_option maxRecDepth 20000 in
theorem dX7_lay_34 : decode cX7_lay 34 = .ok (.iadd, 1) := by decide +kernel
set_option maxRecDepth 20000 in
theorem dX7_lay_35 : decode cX7_lay 35 = .ok (.aload_n 0, 1) := by decide +kernel
set_option maxRecDepth 20000 in
theorem dX7_lay_36 : decode cX7_lay 36 = .ok (.getfield 13, 3) := by decide +kernel
set_option maxRecDepth 20000 in
theorem dX7_lay_39 : decode cX7_lay 39 = .ok (.iload_n 2, 1) := by decide +kernel
set_option maxRecDepth 20000 in
theorem dX7_lay_40 : decode cX7_lay 40 = .ok (.iaload, 1) := by decide +kernel
set_option maxRecDepth 20000 in
theorem dX7_lay_41 : decode cX7_lay 41 = .ok (.iastore, 1) := by decide +kernel
set_option maxRecDepth 20000 in
theorem dX7_lay_42 : decode cX7_lay 42 = .ok (.iinc 2 1, 3) := by decide +kernel
set_option maxRecDepth 20000 in
theorem dX7_lay_45 : decode cX7_lay 45 = .ok (.goto (-28), 3) := by decide +kernel
set_option maxRecDepth 20000 in
theorem dX7_lay_48 : decode cX7_lay 48 = .ok (.iconst 1, 1) := by decide +kernel
set_option maxRecDepth 20000 in
theorem dX7_lay_49 : decode cX7_lay 49 = .ok (.ireturn, 1) := by decide +kernel
set_option maxRecDepth 20000 in
theorem dX7_take_0 : decode cX7_take 0 = .ok (.iload_n 1, 1) := by decide +kernel
set_option maxRecDepth 20000 in
theorem dX7_take_1 : decode cX7_take 1 = .ok (.i2l, 1) := by decide +kernel
set_option maxRecDepth 20000 in
theorem dX7_take_2 : decode cX7_take 2 = .ok (.lconst 0, 1) := by decide +kernel
set_option maxRecDepth 20000 in
theorem dX7_take_3 : decode cX7_take 3 = .ok (.ldc2_w 64, 3) := by decide +kernel
set_option maxRecDepth 20000 in
theorem dX7_take_6 : decode cX7_take 6 = .ok (.invokestatic 51, 3) := by decide +kernel
set_option maxRecDepth 20000 in
theorem dX7_take_9 : decode cX7_take 9 = .ok (.ifCond .ne 6, 3) := by decide +kernel
set_option maxRecDepth 20000 in
theorem dX7_take_12 : decode cX7_take 12 = .ok (.bipush (-2), 2) := by decide +kernel
set_option maxRecDepth 20000 in
theorem dX7_take_14 : decode cX7_take 14 = .ok (.ireturn, 1) := by decide +kernel
set_option maxRecDepth 20000 in
theorem dX7_take_15 : decode cX7_take 15 = .ok (.iconst 0, 1) := by decide +kernel
set_option maxRecDepth 20000 in
theorem dX7_take_16 : decode cX7_take 16 = .ok (.istore_n 2, 1) := by decide +kernel
set_option maxRecDepth 20000 in
theorem dX7_take_17 : decode cX7_take 17 = .ok (.iload_n 2, 1) := by decide +kernel
set_option maxRecDepth 20000 in
theorem dX7_take_18 : decode cX7_take 18 = .ok (.aload_n 0, 1) := by decide +kernel
set_option maxRecDepth 20000 in
theorem dX7_take_19 : decode cX7_take 19 = .ok (.getfield 7, 3) := by decide +kernel
set_option maxRecDepth 20000 in
theorem dX7_take_22 : decode cX7_take 22 = .ok (.if_icmp .ge 26, 3) := by decide +kernel
set_option maxRecDepth 20000 in
theorem dX7_take_25 : decode cX7_take 25 = .ok (.aload_n 0, 1) := by decide +kernel
set_option maxRecDepth 20000 in
theorem dX7_take_26 : decode cX7_take 26 = .ok (.getfield 13, 3) := by decide +kernel
set_option maxRecDepth 20000 in
theorem dX7_take_29 : decode cX7_take 29 = .ok (.iload_n 2, 1) := by decide +kernel
set_option maxRecDepth 20000 in
theorem dX7_take_30 : decode cX7_take 30 = .ok (.aload_n 0, 1) := by decide +kernel
set_option maxRecDepth 20000 in
theorem dX7_take_31 : decode cX7_take 31 = .ok (.getfield 17, 3) := by decide +kernel
set_option maxRecDepth 20000 in
theorem dX7_take_34 : decode cX7_take 34 = .ok (.bipush 18, 2) := by decide +kernel
set_option maxRecDepth 20000 in
theorem dX7_take_36 : decode cX7_take 36 = .ok (.iload_n 1, 1) := by decide +kernel
set_option maxRecDepth 20000 in
theorem dX7_take_37 : decode cX7_take 37 = .ok (.imul, 1) := by decide +kernel
set_option maxRecDepth 20000 in
theorem dX7_take_38 : decode cX7_take 38 = .ok (.iload_n 2, 1) := by decide +kernel
set_option maxRecDepth 20000 in
theorem dX7_take_39 : decode cX7_take 39 = .ok (.iadd, 1) := by decide +kernel
set_option maxRecDepth 20000 in
theorem dX7_take_40 : decode cX7_take 40 = .ok (.iaload, 1) := by decide +kernel
set_option maxRecDepth 20000 in
theorem dX7_take_41 : decode cX7_take 41 = .ok (.iastore, 1) := by decide +kernel
set_option maxRecDepth 20000 in
theorem dX7_take_42 : decode cX7_take 42 = .ok (.iinc 2 1, 3) := by decide +kernel
set_option maxRecDepth 20000 in
theorem dX7_take_45 : decode cX7_take 45 = .ok (.goto (-28), 3) := by decide +kernel
set_option maxRecDepth 20000 in
theorem dX7_take_48 : decode cX7_take 48 = .ok (.iconst 1, 1) := by decide +kernel
set_option maxRecDepth 20000 in
theorem dX7_take_49 : decode cX7_take 49 = .ok (.ireturn, 1) := by decide +kernel
set_option maxRecDepth 20000 in
theorem dX7_then_0 : decode cX7_then 0 = .ok (.iload_n 1, 1) := by decide +kernel
set_option maxRecDepth 20000 in
theorem dX7_then_1 : decode cX7_then 1 = .ok (.i2l, 1) := by decide +kernel
set_option maxRecDepth 20000 in
theorem dX7_then_2 : decode cX7_then 2 = .ok (.lconst 0, 1) := by decide +kernel
set_option maxRecDepth 20000 in
theorem dX7_then_3 : decode cX7_then 3 = .ok (.ldc2_w 64, 3) := by decide +kernel
set_option maxRecDepth 20000 in
theorem dX7_then_6 : decode cX7_then 6 = .ok (.invokestatic 51, 3) := by decide +kernel
set_option maxRecDepth 20000 in
theorem dX7_then_9 : decode cX7_then 9 = .ok (.ifCond .ne 6, 3) := by decide +kernel
set_option maxRecDepth 20000 in
theorem dX7_then_12 : decode cX7_then 12 = .ok (.bipush (-2), 2) := by decide +kernel
set_option maxRecDepth 20000 in
theorem dX7_then_14 : decode cX7_then 14 = .ok (.ireturn, 1) := by decide +kernel
set_option maxRecDepth 20000 in
theorem dX7_then_15 : decode cX7_then 15 = .ok (.iconst 0, 1) := by decide +kernel
set_option maxRecDepth 20000 in
theorem dX7_then_16 : decode cX7_then 16 = .ok (.istore_n 2, 1) := by decide +kernel
set_option maxRecDepth 20000 in
theorem dX7_then_17 : decode cX7_then 17 = .ok (.iload_n 2, 1) := by decide +kernel
set_option maxRecDepth 20000 in
theorem dX7_then_18 : decode cX7_then 18 = .ok (.aload_n 0, 1) := by decide +kernel
set_option maxRecDepth 20000 in
theorem dX7_then_19 : decode cX7_then 19 = .ok (.getfield 7, 3) := by decide +kernel
set_option maxRecDepth 20000 in
theorem dX7_then_22 : decode cX7_then 22 = .ok (.if_icmp .ge 31, 3) := by decide +kernel
set_option maxRecDepth 20000 in
theorem dX7_then_25 : decode cX7_then 25 = .ok (.aload_n 0, 1) := by decide +kernel
set_option maxRecDepth 20000 in
theorem dX7_then_26 : decode cX7_then 26 = .ok (.getfield 29, 3) := by decide +kernel
set_option maxRecDepth 20000 in
theorem dX7_then_29 : decode cX7_then 29 = .ok (.iload_n 2, 1) := by decide +kernel
set_option maxRecDepth 20000 in
theorem dX7_then_30 : decode cX7_then 30 = .ok (.aload_n 0, 1) := by decide +kernel
set_option maxRecDepth 20000 in
theorem dX7_then_31 : decode cX7_then 31 = .ok (.getfield 17, 3) := by decide +kernel
set_option maxRecDepth 20000 in
theorem dX7_then_34 : decode cX7_then 34 = .ok (.bipush 18, 2) := by decide +kernel
set_option maxRecDepth 20000 in
theorem dX7_then_36 : decode cX7_then 36 = .ok (.iload_n 1, 1) := by decide +kernel
set_option maxRecDepth 20000 in
theorem dX7_then_37 : decode cX7_then 37 = .ok (.imul, 1) := by decide +kernel
set_option maxRecDepth 20000 in
theorem dX7_then_38 : decode cX7_then 38 = .ok (.aload_n 0, 1) := by decide +kernel
set_option maxRecDepth 20000 in
theorem dX7_then_39 : decode cX7_then 39 = .ok (.getfield 13, 3) := by decide +kernel
set_option maxRecDepth 20000 in
theorem dX7_then_42 : decode cX7_then 42 = .ok (.iload_n 2, 1) := by decide +kernel
set_option maxRecDepth 20000 in
theorem dX7_then_43 : decode cX7_then 43 = .ok (.iaload, 1) := by decide +kernel
set_option maxRecDepth 20000 in
theorem dX7_then_44 : decode cX7_then 44 = .ok (.iadd, 1) := by decide +kernel
set_option maxRecDepth 20000 in
theorem dX7_then_45 : decode cX7_then 45 = .ok (.iaload, 1) := by decide +kernel
set_option maxRecDepth 20000 in
theorem dX7_then_46 : decode cX7_then 46 = .ok (.iastore, 1) := by decide +kernel
set_option maxRecDepth 20000 in
theorem dX7_then_47 : decode cX7_then 47 = .ok (.iinc 2 1, 3) := by decide +kernel
set_option maxRecDepth 20000 in
theorem dX7_then_50 : decode cX7_then 50 = .ok (.goto (-33), 3) := by decide +kernel
set_option maxRecDepth 20000 in
theorem dX7_then_53 : decode cX7_then 53 = .ok (.aload_n 0, 1) := by decide +kernel
set_option maxRecDepth 20000 in
theorem dX7_then_54 : decode cX7_then 54 = .ok (.invokevirtual 57, 3) := by decide +kernel
set_option maxRecDepth 20000 in
theorem dX7_then_57 : decode cX7_then 57 = .ok (.iconst 1, 1) := by decide +kernel
set_option maxRecDepth 20000 in
theorem dX7_then_58 : decode cX7_then 58 = .ok (.ireturn, 1) := by decide +kernel
set_option maxRecDepth 20000 in
theorem dX7_back_0 : decode cX7_back 0 = .ok (.iconst 0, 1) := by decide +kernel
set_option maxRecDepth 20000 in
theorem dX7_back_1 : decode cX7_back 1 = .ok (.istore_n 1, 1) := by decide +kernel
set_option maxRecDepth 20000 in
theorem dX7_back_2 : decode cX7_back 2 = .ok (.iload_n 1, 1) := by decide +kernel
set_option maxRecDepth 20000 in
theorem dX7_back_3 : decode cX7_back 3 = .ok (.aload_n 0, 1) := by decide +kernel
set_option maxRecDepth 20000 in
theorem dX7_back_4 : decode cX7_back 4 = .ok (.getfield 7, 3) := by decide +kernel
set_option maxRecDepth 20000 in
theorem dX7_back_7 : decode cX7_back 7 = .ok (.if_icmp .ge 21, 3) := by decide +kernel
set_option maxRecDepth 20000 in
theorem dX7_back_10 : decode cX7_back 10 = .ok (.aload_n 0, 1) := by decide +kernel
set_option maxRecDepth 20000 in
theorem dX7_back_11 : decode cX7_back 11 = .ok (.getfield 29, 3) := by decide +kernel
set_option maxRecDepth 20000 in
theorem dX7_back_14 : decode cX7_back 14 = .ok (.aload_n 0, 1) := by decide +kernel
set_option maxRecDepth 20000 in
theorem dX7_back_15 : decode cX7_back 15 = .ok (.getfield 13, 3) := by decide +kernel
set_option maxRecDepth 20000 in
theorem dX7_back_18 : decode cX7_back 18 = .ok (.iload_n 1, 1) := by decide +kernel
set_option maxRecDepth 20000 in
theorem dX7_back_19 : decode cX7_back 19 = .ok (.iaload, 1) := by decide +kernel
set_option maxRecDepth 20000 in
theorem dX7_back_20 : decode cX7_back 20 = .ok (.iload_n 1, 1) := by decide +kernel
set_option maxRecDepth 20000 in
theorem dX7_back_21 : decode cX7_back 21 = .ok (.iastore, 1) := by decide +kernel
set_option maxRecDepth 20000 in
theorem dX7_back_22 : decode cX7_back 22 = .ok (.iinc 1 1, 3) := by decide +kernel
set_option maxRecDepth 20000 in
theorem dX7_back_25 : decode cX7_back 25 = .ok (.goto (-23), 3) := by decide +kernel
set_option maxRecDepth 20000 in
theorem dX7_back_28 : decode cX7_back 28 = .ok (.aload_n 0, 1) := by decide +kernel
set_option maxRecDepth 20000 in
theorem dX7_back_29 : decode cX7_back 29 = .ok (.invokevirtual 57, 3) := by decide +kernel
set_option maxRecDepth 20000 in
theorem dX7_back_32 : decode cX7_back 32 = .ok (.iconst 1, 1) := by decide +kernel
set_option maxRecDepth 20000 in
theorem dX7_back_33 : decode cX7_back 33 = .ok (.ireturn, 1) := by decide +kernel
set_option maxRecDepth 20000 in
theorem dX7_common_0 : decode cX7_common 0 = .ok (.lload_n 0, 1) := by decide +kernel
set_option maxRecDepth 20000 in
theorem dX7_common_1 : decode cX7_common 1 = .ok (.lstore 4, 2) := by decide +kernel
set_option maxRecDepth 20000 in
theorem dX7_common_3 : decode cX7_common 3 = .ok (.lload_n 2, 1) := by decide +kernel
set_option maxRecDepth 20000 in
theorem dX7_common_4 : decode cX7_common 4 = .ok (.lstore 6, 2) := by decide +kernel
set_option maxRecDepth 20000 in
theorem dX7_common_6 : decode cX7_common 6 = .ok (.lload 6, 2) := by decide +kernel
set_option maxRecDepth 20000 in
theorem dX7_common_8 : decode cX7_common 8 = .ok (.lconst 0, 1) := by decide +kernel
set_option maxRecDepth 20000 in
theorem dX7_common_9 : decode cX7_common 9 = .ok (.lcmp, 1) := by decide +kernel
set_option maxRecDepth 20000 in
theorem dX7_common_10 : decode cX7_common 10 = .ok (.ifCond .eq 21, 3) := by decide +kernel
set_option maxRecDepth 20000 in
theorem dX7_common_13 : decode cX7_common 13 = .ok (.lload 4, 2) := by decide +kernel
set_option maxRecDepth 20000 in
theorem dX7_common_15 : decode cX7_common 15 = .ok (.lload 6, 2) := by decide +kernel
set_option maxRecDepth 20000 in
theorem dX7_common_17 : decode cX7_common 17 = .ok (.lrem, 1) := by decide +kernel
set_option maxRecDepth 20000 in
theorem dX7_common_18 : decode cX7_common 18 = .ok (.lstore 8, 2) := by decide +kernel
set_option maxRecDepth 20000 in
theorem dX7_common_20 : decode cX7_common 20 = .ok (.lload 6, 2) := by decide +kernel
set_option maxRecDepth 20000 in
theorem dX7_common_22 : decode cX7_common 22 = .ok (.lstore 4, 2) := by decide +kernel
set_option maxRecDepth 20000 in
theorem dX7_common_24 : decode cX7_common 24 = .ok (.lload 8, 2) := by decide +kernel
set_option maxRecDepth 20000 in
theorem dX7_common_26 : decode cX7_common 26 = .ok (.lstore 6, 2) := by decide +kernel
set_option maxRecDepth 20000 in
theorem dX7_common_28 : decode cX7_common 28 = .ok (.goto (-22), 3) := by decide +kernel
set_option maxRecDepth 20000 in
theorem dX7_common_31 : decode cX7_common 31 = .ok (.lload 4, 2) := by decide +kernel
set_option maxRecDepth 20000 in
theorem dX7_common_33 : decode cX7_common 33 = .ok (.lreturn, 1) := by decide +kernel
set_option maxRecDepth 20000 in
theorem dX7_roundOf_0 : decode cX7_roundOf 0 = .ok (.iconst 1, 1) := by decide +kernel
set_option maxRecDepth 20000 in
theorem dX7_roundOf_1 : decode cX7_roundOf 1 = .ok (.istore_n 2, 1) := by decide +kernel
set_option maxRecDepth 20000 in
theorem dX7_roundOf_2 : decode cX7_roundOf 2 = .ok (.aload_n 0, 1) := by decide +kernel
set_option maxRecDepth 20000 in
theorem dX7_roundOf_3 : decode cX7_roundOf 3 = .ok (.getfield 13, 3) := by decide +kernel
set_option maxRecDepth 20000 in
theorem dX7_roundOf_6 : decode cX7_roundOf 6 = .ok (.iload_n 1, 1) := by decide +kernel
set_option maxRecDepth 20000 in
theorem dX7_roundOf_7 : decode cX7_roundOf 7 = .ok (.iaload, 1) := by decide +kernel
set_option maxRecDepth 20000 in
theorem dX7_roundOf_8 : decode cX7_roundOf 8 = .ok (.istore_n 3, 1) := by decide +kernel
set_option maxRecDepth 20000 in
theorem dX7_roundOf_9 : decode cX7_roundOf 9 = .ok (.iload_n 3, 1) := by decide +kernel
set_option maxRecDepth 20000 in
theorem dX7_roundOf_10 : decode cX7_roundOf 10 = .ok (.iload_n 1, 1) := by decide +kernel
set_option maxRecDepth 20000 in
theorem dX7_roundOf_11 : decode cX7_roundOf 11 = .ok (.if_icmp .eq 16, 3) := by decide +kernel
set_option maxRecDepth 20000 in
theorem dX7_roundOf_14 : decode cX7_roundOf 14 = .ok (.iinc 2 1, 3) := by decide +kernel
set_option maxRecDepth 20000 in
theorem dX7_roundOf_17 : decode cX7_roundOf 17 = .ok (.aload_n 0, 1) := by decide +kernel
set_option maxRecDepth 20000 in
theorem dX7_roundOf_18 : decode cX7_roundOf 18 = .ok (.getfield 13, 3) := by decide +kernel
set_option maxRecDepth 20000 in
theorem dX7_roundOf_21 : decode cX7_roundOf 21 = .ok (.iload_n 3, 1) := by decide +kernel
set_option maxRecDepth 20000 in
theorem dX7_roundOf_22 : decode cX7_roundOf 22 = .ok (.iaload, 1) := by decide +kernel
set_option maxRecDepth 20000 in
theorem dX7_roundOf_23 : decode cX7_roundOf 23 = .ok (.istore_n 3, 1) := by decide +kernel
set_option maxRecDepth 20000 in
theorem dX7_roundOf_24 : decode cX7_roundOf 24 = .ok (.goto (-15), 3) := by decide +kernel
set_option maxRecDepth 20000 in
theorem dX7_roundOf_27 : decode cX7_roundOf 27 = .ok (.iload_n 2, 1) := by decide +kernel
set_option maxRecDepth 20000 in
theorem dX7_roundOf_28 : decode cX7_roundOf 28 = .ok (.ireturn, 1) := by decide +kernel
set_option maxRecDepth 20000 in
theorem dX7_isRecord_0 : decode cX7_isRecord 0 = .ok (.iconst 1, 1) := by decide +kernel
set_option maxRecDepth 20000 in
theorem dX7_isRecord_1 : decode cX7_isRecord 1 = .ok (.istore_n 2, 1) := by decide +kernel
set_option maxRecDepth 20000 in
theorem dX7_isRecord_2 : decode cX7_isRecord 2 = .ok (.iconst 0, 1) := by decide +kernel
set_option maxRecDepth 20000 in
theorem dX7_isRecord_3 : decode cX7_isRecord 3 = .ok (.istore_n 3, 1) := by decide +kernel
set_option maxRecDepth 20000 in
theorem dX7_isRecord_4 : decode cX7_isRecord 4 = .ok (.iload_n 3, 1) := by decide +kernel
set_option maxRecDepth 20000 in
theorem dX7_isRecord_5 : decode cX7_isRecord 5 = .ok (.iload_n 1, 1) := by decide +kernel
set_option maxRecDepth 20000 in
theorem dX7_isRecord_6 : decode cX7_isRecord 6 = .ok (.if_icmp .ge 34, 3) := by decide +kernel
set_option maxRecDepth 20000 in
theorem dX7_isRecord_9 : decode cX7_isRecord 9 = .ok (.iload_n 2, 1) := by decide +kernel
set_option maxRecDepth 20000 in
theorem dX7_isRecord_10 : decode cX7_isRecord 10 = .ok (.ifCond .eq 22, 3) := by decide +kernel
set_option maxRecDepth 20000 in
theorem dX7_isRecord_13 : decode cX7_isRecord 13 = .ok (.aload_n 0, 1) := by decide +kernel
set_option maxRecDepth 20000 in
theorem dX7_isRecord_14 : decode cX7_isRecord 14 = .ok (.getfield 13, 3) := by decide +kernel
set_option maxRecDepth 20000 in
theorem dX7_isRecord_17 : decode cX7_isRecord 17 = .ok (.iload_n 3, 1) := by decide +kernel
set_option maxRecDepth 20000 in
theorem dX7_isRecord_18 : decode cX7_isRecord 18 = .ok (.iaload, 1) := by decide +kernel
set_option maxRecDepth 20000 in
theorem dX7_isRecord_19 : decode cX7_isRecord 19 = .ok (.aload_n 0, 1) := by decide +kernel
set_option maxRecDepth 20000 in
theorem dX7_isRecord_20 : decode cX7_isRecord 20 = .ok (.getfield 13, 3) := by decide +kernel
set_option maxRecDepth 20000 in
theorem dX7_isRecord_23 : decode cX7_isRecord 23 = .ok (.iload_n 1, 1) := by decide +kernel
set_option maxRecDepth 20000 in
theorem dX7_isRecord_24 : decode cX7_isRecord 24 = .ok (.iaload, 1) := by decide +kernel
set_option maxRecDepth 20000 in
theorem dX7_isRecord_25 : decode cX7_isRecord 25 = .ok (.if_icmp .ge 7, 3) := by decide +kernel
set_option maxRecDepth 20000 in
theorem dX7_isRecord_28 : decode cX7_isRecord 28 = .ok (.iconst 1, 1) := by decide +kernel
set_option maxRecDepth 20000 in
theorem dX7_isRecord_29 : decode cX7_isRecord 29 = .ok (.goto 4, 3) := by decide +kernel
set_option maxRecDepth 20000 in
theorem dX7_isRecord_32 : decode cX7_isRecord 32 = .ok (.iconst 0, 1) := by decide +kernel
set_option maxRecDepth 20000 in
theorem dX7_isRecord_33 : decode cX7_isRecord 33 = .ok (.istore_n 2, 1) := by decide +kernel
set_option maxRecDepth 20000 in
theorem dX7_isRecord_34 : decode cX7_isRecord 34 = .ok (.iinc 3 1, 3) := by decide +kernel
set_option maxRecDepth 20000 in
theorem dX7_isRecord_37 : decode cX7_isRecord 37 = .ok (.goto (-33), 3) := by decide +kernel
set_option maxRecDepth 20000 in
theorem dX7_isRecord_40 : decode cX7_isRecord 40 = .ok (.iload_n 2, 1) := by decide +kernel
set_option maxRecDepth 20000 in
theorem dX7_isRecord_41 : decode cX7_isRecord 41 = .ok (.ireturn, 1) := by decide +kernel
set_option maxRecDepth 20000 in
theorem dX7_isFirst_0 : decode cX7_isFirst 0 = .ok (.iconst 1, 1) := by decide +kernel
set_option maxRecDepth 20000 in
theorem dX7_isFirst_1 : decode cX7_isFirst 1 = .ok (.istore_n 2, 1) := by decide +kernel
set_option maxRecDepth 20000 in
theorem dX7_isFirst_2 : decode cX7_isFirst 2 = .ok (.aload_n 0, 1) := by decide +kernel
set_option maxRecDepth 20000 in
theorem dX7_isFirst_3 : decode cX7_isFirst 3 = .ok (.getfield 13, 3) := by decide +kernel
set_option maxRecDepth 20000 in
theorem dX7_isFirst_6 : decode cX7_isFirst 6 = .ok (.iload_n 1, 1) := by decide +kernel
set_option maxRecDepth 20000 in
theorem dX7_isFirst_7 : decode cX7_isFirst 7 = .ok (.iaload, 1) := by decide +kernel
set_option maxRecDepth 20000 in
theorem dX7_isFirst_8 : decode cX7_isFirst 8 = .ok (.istore_n 3, 1) := by decide +kernel
set_option maxRecDepth 20000 in
theorem dX7_isFirst_9 : decode cX7_isFirst 9 = .ok (.iload_n 3, 1) := by decide +kernel
set_option maxRecDepth 20000 in
theorem dX7_isFirst_10 : decode cX7_isFirst 10 = .ok (.iload_n 1, 1) := by decide +kernel
set_option maxRecDepth 20000 in
theorem dX7_isFirst_11 : decode cX7_isFirst 11 = .ok (.if_icmp .eq 28, 3) := by decide +kernel
set_option maxRecDepth 20000 in
theorem dX7_isFirst_14 : decode cX7_isFirst 14 = .ok (.iload_n 2, 1) := by decide +kernel
set_option maxRecDepth 20000 in
theorem dX7_isFirst_15 : decode cX7_isFirst 15 = .ok (.ifCond .eq 12, 3) := by decide +kernel
set_option maxRecDepth 20000 in
theorem dX7_isFirst_18 : decode cX7_isFirst 18 = .ok (.iload_n 3, 1) := by decide +kernel
set_option maxRecDepth 20000 in
theorem dX7_isFirst_19 : decode cX7_isFirst 19 = .ok (.iload_n 1, 1) := by decide +kernel
set_option maxRecDepth 20000 in
theorem dX7_isFirst_20 : decode cX7_isFirst 20 = .ok (.if_icmp .le 7, 3) := by decide +kernel
set_option maxRecDepth 20000 in
theorem dX7_isFirst_23 : decode cX7_isFirst 23 = .ok (.iconst 1, 1) := by decide +kernel
set_option maxRecDepth 20000 in
theorem dX7_isFirst_24 : decode cX7_isFirst 24 = .ok (.goto 4, 3) := by decide +kernel
set_option maxRecDepth 20000 in
theorem dX7_isFirst_27 : decode cX7_isFirst 27 = .ok (.iconst 0, 1) := by decide +kernel
set_option maxRecDepth 20000 in
theorem dX7_isFirst_28 : decode cX7_isFirst 28 = .ok (.istore_n 2, 1) := by decide +kernel
set_option maxRecDepth 20000 in
theorem dX7_isFirst_29 : decode cX7_isFirst 29 = .ok (.aload_n 0, 1) := by decide +kernel
set_option maxRecDepth 20000 in
theorem dX7_isFirst_30 : decode cX7_isFirst 30 = .ok (.getfield 13, 3) := by decide +kernel
set_option maxRecDepth 20000 in
theorem dX7_isFirst_33 : decode cX7_isFirst 33 = .ok (.iload_n 3, 1) := by decide +kernel
set_option maxRecDepth 20000 in
theorem dX7_isFirst_34 : decode cX7_isFirst 34 = .ok (.iaload, 1) := by decide +kernel
set_option maxRecDepth 20000 in
theorem dX7_isFirst_35 : decode cX7_isFirst 35 = .ok (.istore_n 3, 1) := by decide +kernel
set_option maxRecDepth 20000 in
theorem dX7_isFirst_36 : decode cX7_isFirst 36 = .ok (.goto (-27), 3) := by decide +kernel
set_option maxRecDepth 20000 in
theorem dX7_isFirst_39 : decode cX7_isFirst 39 = .ok (.iload_n 2, 1) := by decide +kernel
set_option maxRecDepth 20000 in
theorem dX7_isFirst_40 : decode cX7_isFirst 40 = .ok (.ireturn, 1) := by decide +kernel
set_option maxRecDepth 20000 in
theorem dX7_longestRise_0 : decode cX7_longestRise 0 = .ok (.iconst 0, 1) := by decide +kernel
set_option maxRecDepth 20000 in
theorem dX7_longestRise_1 : decode cX7_longestRise 1 = .ok (.istore_n 1, 1) := by decide +kernel
set_option maxRecDepth 20000 in
theorem dX7_longestRise_2 : decode cX7_longestRise 2 = .ok (.iconst 0, 1) := by decide +kernel
set_option maxRecDepth 20000 in
theorem dX7_longestRise_3 : decode cX7_longestRise 3 = .ok (.istore_n 2, 1) := by decide +kernel
set_option maxRecDepth 20000 in
theorem dX7_longestRise_4 : decode cX7_longestRise 4 = .ok (.iload_n 2, 1) := by decide +kernel
set_option maxRecDepth 20000 in
theorem dX7_longestRise_5 : decode cX7_longestRise 5 = .ok (.aload_n 0, 1) := by decide +kernel
set_option maxRecDepth 20000 in
theorem dX7_longestRise_6 : decode cX7_longestRise 6 = .ok (.getfield 7, 3) := by decide +kernel
set_option maxRecDepth 20000 in
theorem dX7_longestRise_9 : decode cX7_longestRise 9 = .ok (.if_icmp .ge 105, 3) := by decide +kernel
set_option maxRecDepth 20000 in
theorem dX7_longestRise_12 : decode cX7_longestRise 12 = .ok (.aload_n 0, 1) := by decide +kernel
set_option maxRecDepth 20000 in
theorem dX7_longestRise_13 : decode cX7_longestRise 13 = .ok (.getfield 29, 3) := by decide +kernel
set_option maxRecDepth 20000 in
theorem dX7_longestRise_16 : decode cX7_longestRise 16 = .ok (.iload_n 2, 1) := by decide +kernel
set_option maxRecDepth 20000 in
theorem dX7_longestRise_17 : decode cX7_longestRise 17 = .ok (.iconst 1, 1) := by decide +kernel
set_option maxRecDepth 20000 in
theorem dX7_longestRise_18 : decode cX7_longestRise 18 = .ok (.iastore, 1) := by decide +kernel
set_option maxRecDepth 20000 in
theorem dX7_longestRise_19 : decode cX7_longestRise 19 = .ok (.iconst 0, 1) := by decide +kernel
set_option maxRecDepth 20000 in
theorem dX7_longestRise_20 : decode cX7_longestRise 20 = .ok (.istore_n 3, 1) := by decide +kernel
set_option maxRecDepth 20000 in
theorem dX7_longestRise_21 : decode cX7_longestRise 21 = .ok (.iload_n 3, 1) := by decide +kernel
set_option maxRecDepth 20000 in
theorem dX7_longestRise_22 : decode cX7_longestRise 22 = .ok (.iload_n 2, 1) := by decide +kernel
set_option maxRecDepth 20000 in
theorem dX7_longestRise_23 : decode cX7_longestRise 23 = .ok (.if_icmp .ge 64, 3) := by decide +kernel
set_option maxRecDepth 20000 in
theorem dX7_longestRise_26 : decode cX7_longestRise 26 = .ok (.aload_n 0, 1) := by decide +kernel
set_option maxRecDepth 20000 in
theorem dX7_longestRise_27 : decode cX7_longestRise 27 = .ok (.getfield 29, 3) := by decide +kernel
set_option maxRecDepth 20000 in
theorem dX7_longestRise_30 : decode cX7_longestRise 30 = .ok (.iload_n 2, 1) := by decide +kernel
set_option maxRecDepth 20000 in
theorem dX7_longestRise_31 : decode cX7_longestRise 31 = .ok (.aload_n 0, 1) := by decide +kernel
set_option maxRecDepth 20000 in
theorem dX7_longestRise_32 : decode cX7_longestRise 32 = .ok (.getfield 13, 3) := by decide +kernel
set_option maxRecDepth 20000 in
theorem dX7_longestRise_35 : decode cX7_longestRise 35 = .ok (.iload_n 3, 1) := by decide +kernel
set_option maxRecDepth 20000 in
theorem dX7_longestRise_36 : decode cX7_longestRise 36 = .ok (.iaload, 1) := by decide +kernel
set_option maxRecDepth 20000 in
theorem dX7_longestRise_37 : decode cX7_longestRise 37 = .ok (.aload_n 0, 1) := by decide +kernel
set_option maxRecDepth 20000 in
theorem dX7_longestRise_38 : decode cX7_longestRise 38 = .ok (.getfield 13, 3) := by decide +kernel
set_option maxRecDepth 20000 in
theorem dX7_longestRise_41 : decode cX7_longestRise 41 = .ok (.iload_n 2, 1) := by decide +kernel
set_option maxRecDepth 20000 in
theorem dX7_longestRise_42 : decode cX7_longestRise 42 = .ok (.iaload, 1) := by decide +kernel
set_option maxRecDepth 20000 in
theorem dX7_longestRise_43 : decode cX7_longestRise 43 = .ok (.if_icmp .ge 31, 3) := by decide +kernel
set_option maxRecDepth 20000 in
theorem dX7_longestRise_46 : decode cX7_longestRise 46 = .ok (.aload_n 0, 1) := by decide +kernel
set_option maxRecDepth 20000 in
theorem dX7_longestRise_47 : decode cX7_longestRise 47 = .ok (.getfield 29, 3) := by decide +kernel
set_option maxRecDepth 20000 in
theorem dX7_longestRise_50 : decode cX7_longestRise 50 = .ok (.iload_n 3, 1) := by decide +kernel
set_option maxRecDepth 20000 in
theorem dX7_longestRise_51 : decode cX7_longestRise 51 = .ok (.iaload, 1) := by decide +kernel
set_option maxRecDepth 20000 in
theorem dX7_longestRise_52 : decode cX7_longestRise 52 = .ok (.iconst 1, 1) := by decide +kernel
set_option maxRecDepth 20000 in
theorem dX7_longestRise_53 : decode cX7_longestRise 53 = .ok (.iadd, 1) := by decide +kernel
set_option maxRecDepth 20000 in
theorem dX7_longestRise_54 : decode cX7_longestRise 54 = .ok (.aload_n 0, 1) := by decide +kernel
set_option maxRecDepth 20000 in
theorem dX7_longestRise_55 : decode cX7_longestRise 55 = .ok (.getfield 29, 3) := by decide +kernel
set_option maxRecDepth 20000 in
theorem dX7_longestRise_58 : decode cX7_longestRise 58 = .ok (.iload_n 2, 1) := by decide +kernel
set_option maxRecDepth 20000 in
theorem dX7_longestRise_59 : decode cX7_longestRise 59 = .ok (.iaload, 1) := by decide +kernel
set_option maxRecDepth 20000 in
theorem dX7_longestRise_60 : decode cX7_longestRise 60 = .ok (.if_icmp .le 14, 3) := by decide +kernel
set_option maxRecDepth 20000 in
theorem dX7_longestRise_63 : decode cX7_longestRise 63 = .ok (.aload_n 0, 1) := by decide +kernel
set_option maxRecDepth 20000 in
theorem dX7_longestRise_64 : decode cX7_longestRise 64 = .ok (.getfield 29, 3) := by decide +kernel
set_option maxRecDepth 20000 in
theorem dX7_longestRise_67 : decode cX7_longestRise 67 = .ok (.iload_n 3, 1) := by decide +kernel
set_option maxRecDepth 20000 in
theorem dX7_longestRise_68 : decode cX7_longestRise 68 = .ok (.iaload, 1) := by decide +kernel
set_option maxRecDepth 20000 in
theorem dX7_longestRise_69 : decode cX7_longestRise 69 = .ok (.iconst 1, 1) := by decide +kernel
set_option maxRecDepth 20000 in
theorem dX7_longestRise_70 : decode cX7_longestRise 70 = .ok (.iadd, 1) := by decide +kernel
set_option maxRecDepth 20000 in
theorem dX7_longestRise_71 : decode cX7_longestRise 71 = .ok (.goto 9, 3) := by decide +kernel
set_option maxRecDepth 20000 in
theorem dX7_longestRise_74 : decode cX7_longestRise 74 = .ok (.aload_n 0, 1) := by decide +kernel
set_option maxRecDepth 20000 in
theorem dX7_longestRise_75 : decode cX7_longestRise 75 = .ok (.getfield 29, 3) := by decide +kernel
set_option maxRecDepth 20000 in
theorem dX7_longestRise_78 : decode cX7_longestRise 78 = .ok (.iload_n 2, 1) := by decide +kernel
set_option maxRecDepth 20000 in
theorem dX7_longestRise_79 : decode cX7_longestRise 79 = .ok (.iaload, 1) := by decide +kernel
set_option maxRecDepth 20000 in
theorem dX7_longestRise_80 : decode cX7_longestRise 80 = .ok (.iastore, 1) := by decide +kernel
set_option maxRecDepth 20000 in
theorem dX7_longestRise_81 : decode cX7_longestRise 81 = .ok (.iinc 3 1, 3) := by decide +kernel
set_option maxRecDepth 20000 in
theorem dX7_longestRise_84 : decode cX7_longestRise 84 = .ok (.goto (-63), 3) := by decide +kernel
set_option maxRecDepth 20000 in
theorem dX7_longestRise_87 : decode cX7_longestRise 87 = .ok (.aload_n 0, 1) := by decide +kernel
set_option maxRecDepth 20000 in
theorem dX7_longestRise_88 : decode cX7_longestRise 88 = .ok (.getfield 29, 3) := by decide +kernel
set_option maxRecDepth 20000 in
theorem dX7_longestRise_91 : decode cX7_longestRise 91 = .ok (.iload_n 2, 1) := by decide +kernel
set_option maxRecDepth 20000 in
theorem dX7_longestRise_92 : decode cX7_longestRise 92 = .ok (.iaload, 1) := by decide +kernel
set_option maxRecDepth 20000 in
theorem dX7_longestRise_93 : decode cX7_longestRise 93 = .ok (.iload_n 1, 1) := by decide +kernel
set_option maxRecDepth 20000 in
theorem dX7_longestRise_94 : decode cX7_longestRise 94 = .ok (.if_icmp .le 12, 3) := by decide +kernel
set_option maxRecDepth 20000 in
theorem dX7_longestRise_97 : decode cX7_longestRise 97 = .ok (.aload_n 0, 1) := by decide +kernel
set_option maxRecDepth 20000 in
theorem dX7_longestRise_98 : decode cX7_longestRise 98 = .ok (.getfield 29, 3) := by decide +kernel
set_option maxRecDepth 20000 in
theorem dX7_longestRise_101 : decode cX7_longestRise 101 = .ok (.iload_n 2, 1) := by decide +kernel
set_option maxRecDepth 20000 in
theorem dX7_longestRise_102 : decode cX7_longestRise 102 = .ok (.iaload, 1) := by decide +kernel
set_option maxRecDepth 20000 in
theorem dX7_longestRise_103 : decode cX7_longestRise 103 = .ok (.goto 4, 3) := by decide +kernel
set_option maxRecDepth 20000 in
theorem dX7_longestRise_106 : decode cX7_longestRise 106 = .ok (.iload_n 1, 1) := by decide +kernel
set_option maxRecDepth 20000 in
theorem dX7_longestRise_107 : decode cX7_longestRise 107 = .ok (.istore_n 1, 1) := by decide +kernel
set_option maxRecDepth 20000 in
theorem dX7_longestRise_108 : decode cX7_longestRise 108 = .ok (.iinc 2 1, 3) := by decide +kernel
set_option maxRecDepth 20000 in
theorem dX7_longestRise_111 : decode cX7_longestRise 111 = .ok (.goto (-107), 3) := by decide +kernel
set_option maxRecDepth 20000 in
theorem dX7_longestRise_114 : decode cX7_longestRise 114 = .ok (.iload_n 1, 1) := by decide +kernel
set_option maxRecDepth 20000 in
theorem dX7_longestRise_115 : decode cX7_longestRise 115 = .ok (.ireturn, 1) := by decide +kernel
set_option maxRecDepth 20000 in
theorem dX7_out_0 : decode cX7_out 0 = .ok (.iconst 0, 1) := by decide +kernel
set_option maxRecDepth 20000 in
theorem dX7_out_1 : decode cX7_out 1 = .ok (.istore_n 1, 1) := by decide +kernel
set_option maxRecDepth 20000 in
theorem dX7_out_2 : decode cX7_out 2 = .ok (.iconst 0, 1) := by decide +kernel
set_option maxRecDepth 20000 in
theorem dX7_out_3 : decode cX7_out 3 = .ok (.istore_n 2, 1) := by decide +kernel
set_option maxRecDepth 20000 in
theorem dX7_out_4 : decode cX7_out 4 = .ok (.iload_n 2, 1) := by decide +kernel
set_option maxRecDepth 20000 in
theorem dX7_out_5 : decode cX7_out 5 = .ok (.aload_n 0, 1) := by decide +kernel
set_option maxRecDepth 20000 in
theorem dX7_out_6 : decode cX7_out 6 = .ok (.getfield 7, 3) := by decide +kernel
set_option maxRecDepth 20000 in
theorem dX7_out_9 : decode cX7_out 9 = .ok (.if_icmp .ge 50, 3) := by decide +kernel
set_option maxRecDepth 20000 in
theorem dX7_out_12 : decode cX7_out 12 = .ok (.iload_n 2, 1) := by decide +kernel
set_option maxRecDepth 20000 in
theorem dX7_out_13 : decode cX7_out 13 = .ok (.iconst 1, 1) := by decide +kernel
set_option maxRecDepth 20000 in
theorem dX7_out_14 : decode cX7_out 14 = .ok (.iadd, 1) := by decide +kernel
set_option maxRecDepth 20000 in
theorem dX7_out_15 : decode cX7_out 15 = .ok (.istore_n 3, 1) := by decide +kernel
set_option maxRecDepth 20000 in
theorem dX7_out_16 : decode cX7_out 16 = .ok (.iload_n 3, 1) := by decide +kernel
set_option maxRecDepth 20000 in
theorem dX7_out_17 : decode cX7_out 17 = .ok (.aload_n 0, 1) := by decide +kernel
set_option maxRecDepth 20000 in
theorem dX7_out_18 : decode cX7_out 18 = .ok (.getfield 7, 3) := by decide +kernel
set_option maxRecDepth 20000 in
theorem dX7_out_21 : decode cX7_out 21 = .ok (.if_icmp .ge 32, 3) := by decide +kernel
set_option maxRecDepth 20000 in
theorem dX7_out_24 : decode cX7_out 24 = .ok (.iload_n 1, 1) := by decide +kernel
set_option maxRecDepth 20000 in
theorem dX7_out_25 : decode cX7_out 25 = .ok (.aload_n 0, 1) := by decide +kernel
set_option maxRecDepth 20000 in
theorem dX7_out_26 : decode cX7_out 26 = .ok (.getfield 13, 3) := by decide +kernel
set_option maxRecDepth 20000 in
theorem dX7_out_29 : decode cX7_out 29 = .ok (.iload_n 2, 1) := by decide +kernel
set_option maxRecDepth 20000 in
theorem dX7_out_30 : decode cX7_out 30 = .ok (.iaload, 1) := by decide +kernel
set_option maxRecDepth 20000 in
theorem dX7_out_31 : decode cX7_out 31 = .ok (.aload_n 0, 1) := by decide +kernel
set_option maxRecDepth 20000 in
theorem dX7_out_32 : decode cX7_out 32 = .ok (.getfield 13, 3) := by decide +kernel
set_option maxRecDepth 20000 in
theorem dX7_out_35 : decode cX7_out 35 = .ok (.iload_n 3, 1) := by decide +kernel
set_option maxRecDepth 20000 in
theorem dX7_out_36 : decode cX7_out 36 = .ok (.iaload, 1) := by decide +kernel
set_option maxRecDepth 20000 in
theorem dX7_out_37 : decode cX7_out 37 = .ok (.if_icmp .le 7, 3) := by decide +kernel
set_option maxRecDepth 20000 in
theorem dX7_out_40 : decode cX7_out 40 = .ok (.iconst 1, 1) := by decide +kernel
set_option maxRecDepth 20000 in
theorem dX7_out_41 : decode cX7_out 41 = .ok (.goto 4, 3) := by decide +kernel
set_option maxRecDepth 20000 in
theorem dX7_out_44 : decode cX7_out 44 = .ok (.iconst 0, 1) := by decide +kernel
set_option maxRecDepth 20000 in
theorem dX7_out_45 : decode cX7_out 45 = .ok (.iadd, 1) := by decide +kernel
set_option maxRecDepth 20000 in
theorem dX7_out_46 : decode cX7_out 46 = .ok (.istore_n 1, 1) := by decide +kernel
set_option maxRecDepth 20000 in
theorem dX7_out_47 : decode cX7_out 47 = .ok (.iinc 3 1, 3) := by decide +kernel
set_option maxRecDepth 20000 in
theorem dX7_out_50 : decode cX7_out 50 = .ok (.goto (-34), 3) := by decide +kernel
set_option maxRecDepth 20000 in
theorem dX7_out_53 : decode cX7_out 53 = .ok (.iinc 2 1, 3) := by decide +kernel
set_option maxRecDepth 20000 in
theorem dX7_out_56 : decode cX7_out 56 = .ok (.goto (-52), 3) := by decide +kernel
set_option maxRecDepth 20000 in
theorem dX7_out_59 : decode cX7_out 59 = .ok (.iload_n 1, 1) := by decide +kernel
set_option maxRecDepth 20000 in
theorem dX7_out_60 : decode cX7_out 60 = .ok (.ireturn, 1) := by decide +kernel
set_option maxRecDepth 20000 in
theorem dX7_numberOf_0 : decode cX7_numberOf 0 = .ok (.iconst 0, 1) := by decide +kernel
set_option maxRecDepth 20000 in
theorem dX7_numberOf_1 : decode cX7_numberOf 1 = .ok (.istore_n 2, 1) := by decide +kernel
set_option maxRecDepth 20000 in
theorem dX7_numberOf_2 : decode cX7_numberOf 2 = .ok (.iconst 0, 1) := by decide +kernel
set_option maxRecDepth 20000 in
theorem dX7_numberOf_3 : decode cX7_numberOf 3 = .ok (.istore_n 3, 1) := by decide +kernel
set_option maxRecDepth 20000 in
theorem dX7_numberOf_4 : decode cX7_numberOf 4 = .ok (.lconst 1, 1) := by decide +kernel
set_option maxRecDepth 20000 in
theorem dX7_numberOf_5 : decode cX7_numberOf 5 = .ok (.lstore 4, 2) := by decide +kernel
set_option maxRecDepth 20000 in
theorem dX7_numberOf_7 : decode cX7_numberOf 7 = .ok (.iconst 0, 1) := by decide +kernel
set_option maxRecDepth 20000 in
theorem dX7_numberOf_8 : decode cX7_numberOf 8 = .ok (.istore 6, 2) := by decide +kernel
set_option maxRecDepth 20000 in
theorem dX7_numberOf_10 : decode cX7_numberOf 10 = .ok (.iload 6, 2) := by decide +kernel
set_option maxRecDepth 20000 in
theorem dX7_numberOf_12 : decode cX7_numberOf 12 = .ok (.aload_n 0, 1) := by decide +kernel
set_option maxRecDepth 20000 in
theorem dX7_numberOf_13 : decode cX7_numberOf 13 = .ok (.getfield 7, 3) := by decide +kernel
set_option maxRecDepth 20000 in
theorem dX7_numberOf_16 : decode cX7_numberOf 16 = .ok (.if_icmp .ge 149, 3) := by decide +kernel
set_option maxRecDepth 20000 in
theorem dX7_numberOf_19 : decode cX7_numberOf 19 = .ok (.aload_n 0, 1) := by decide +kernel
set_option maxRecDepth 20000 in
theorem dX7_numberOf_20 : decode cX7_numberOf 20 = .ok (.iload 6, 2) := by decide +kernel
set_option maxRecDepth 20000 in
theorem dX7_numberOf_22 : decode cX7_numberOf 22 = .ok (.invokevirtual 66, 3) := by decide +kernel
set_option maxRecDepth 20000 in
theorem dX7_numberOf_25 : decode cX7_numberOf 25 = .ok (.istore 7, 2) := by decide +kernel
set_option maxRecDepth 20000 in
theorem dX7_numberOf_27 : decode cX7_numberOf 27 = .ok (.iload 7, 2) := by decide +kernel
set_option maxRecDepth 20000 in
theorem dX7_numberOf_29 : decode cX7_numberOf 29 = .ok (.iload_n 3, 1) := by decide +kernel
set_option maxRecDepth 20000 in
theorem dX7_numberOf_30 : decode cX7_numberOf 30 = .ok (.if_icmp .le 8, 3) := by decide +kernel
set_option maxRecDepth 20000 in
theorem dX7_numberOf_33 : decode cX7_numberOf 33 = .ok (.iload 7, 2) := by decide +kernel
set_option maxRecDepth 20000 in
theorem dX7_numberOf_35 : decode cX7_numberOf 35 = .ok (.goto 4, 3) := by decide +kernel
set_option maxRecDepth 20000 in
theorem dX7_numberOf_38 : decode cX7_numberOf 38 = .ok (.iload_n 3, 1) := by decide +kernel
set_option maxRecDepth 20000 in
theorem dX7_numberOf_39 : decode cX7_numberOf 39 = .ok (.istore_n 3, 1) := by decide +kernel
set_option maxRecDepth 20000 in
theorem dX7_numberOf_40 : decode cX7_numberOf 40 = .ok (.lload 4, 2) := by decide +kernel
set_option maxRecDepth 20000 in
theorem dX7_numberOf_42 : decode cX7_numberOf 42 = .ok (.lload 4, 2) := by decide +kernel
set_option maxRecDepth 20000 in
theorem dX7_numberOf_44 : decode cX7_numberOf 44 = .ok (.iload 7, 2) := by decide +kernel
set_option maxRecDepth 20000 in
theorem dX7_numberOf_46 : decode cX7_numberOf 46 = .ok (.i2l, 1) := by decide +kernel
set_option maxRecDepth 20000 in
theorem dX7_numberOf_47 : decode cX7_numberOf 47 = .ok (.invokestatic 70, 3) := by decide +kernel
set_option maxRecDepth 20000 in
theorem dX7_numberOf_50 : decode cX7_numberOf 50 = .ok (.ldiv, 1) := by decide +kernel
set_option maxRecDepth 20000 in
theorem dX7_numberOf_51 : decode cX7_numberOf 51 = .ok (.iload 7, 2) := by decide +kernel
set_option maxRecDepth 20000 in
theorem dX7_numberOf_53 : decode cX7_numberOf 53 = .ok (.i2l, 1) := by decide +kernel
set_option maxRecDepth 20000 in
theorem dX7_numberOf_54 : decode cX7_numberOf 54 = .ok (.lmul, 1) := by decide +kernel
set_option maxRecDepth 20000 in
theorem dX7_numberOf_55 : decode cX7_numberOf 55 = .ok (.lstore 4, 2) := by decide +kernel
set_option maxRecDepth 20000 in
theorem dX7_numberOf_57 : decode cX7_numberOf 57 = .ok (.iload_n 1, 1) := by decide +kernel
set_option maxRecDepth 20000 in
theorem dX7_numberOf_58 : decode cX7_numberOf 58 = .ok (.ifCond .ne 12, 3) := by decide +kernel
set_option maxRecDepth 20000 in
theorem dX7_numberOf_61 : decode cX7_numberOf 61 = .ok (.aload_n 0, 1) := by decide +kernel
set_option maxRecDepth 20000 in
theorem dX7_numberOf_62 : decode cX7_numberOf 62 = .ok (.iload 6, 2) := by decide +kernel
set_option maxRecDepth 20000 in
theorem dX7_numberOf_64 : decode cX7_numberOf 64 = .ok (.invokevirtual 74, 3) := by decide +kernel
set_option maxRecDepth 20000 in
theorem dX7_numberOf_67 : decode cX7_numberOf 67 = .ok (.goto 77, 3) := by decide +kernel
set_option maxRecDepth 20000 in
theorem dX7_numberOf_70 : decode cX7_numberOf 70 = .ok (.iload_n 1, 1) := by decide +kernel
set_option maxRecDepth 20000 in
theorem dX7_numberOf_71 : decode cX7_numberOf 71 = .ok (.iconst 1, 1) := by decide +kernel
set_option maxRecDepth 20000 in
theorem dX7_numberOf_72 : decode cX7_numberOf 72 = .ok (.if_icmp .ne 12, 3) := by decide +kernel
set_option maxRecDepth 20000 in
theorem dX7_numberOf_75 : decode cX7_numberOf 75 = .ok (.aload_n 0, 1) := by decide +kernel
set_option maxRecDepth 20000 in
theorem dX7_numberOf_76 : decode cX7_numberOf 76 = .ok (.iload 6, 2) := by decide +kernel
set_option maxRecDepth 20000 in
theorem dX7_numberOf_78 : decode cX7_numberOf 78 = .ok (.invokevirtual 77, 3) := by decide +kernel
set_option maxRecDepth 20000 in
theorem dX7_numberOf_81 : decode cX7_numberOf 81 = .ok (.goto 63, 3) := by decide +kernel
set_option maxRecDepth 20000 in
theorem dX7_numberOf_84 : decode cX7_numberOf 84 = .ok (.iload_n 1, 1) := by decide +kernel
set_option maxRecDepth 20000 in
theorem dX7_numberOf_85 : decode cX7_numberOf 85 = .ok (.iconst 2, 1) := by decide +kernel
set_option maxRecDepth 20000 in
theorem dX7_numberOf_86 : decode cX7_numberOf 86 = .ok (.if_icmp .ne 41, 3) := by decide +kernel
set_option maxRecDepth 20000 in
theorem dX7_numberOf_89 : decode cX7_numberOf 89 = .ok (.iload 6, 2) := by decide +kernel
set_option maxRecDepth 20000 in
theorem dX7_numberOf_91 : decode cX7_numberOf 91 = .ok (.aload_n 0, 1) := by decide +kernel
set_option maxRecDepth 20000 in
theorem dX7_numberOf_92 : decode cX7_numberOf 92 = .ok (.getfield 7, 3) := by decide +kernel
set_option maxRecDepth 20000 in
theorem dX7_numberOf_95 : decode cX7_numberOf 95 = .ok (.iconst 1, 1) := by decide +kernel
set_option maxRecDepth 20000 in
theorem dX7_numberOf_96 : decode cX7_numberOf 96 = .ok (.isub, 1) := by decide +kernel
set_option maxRecDepth 20000 in
theorem dX7_numberOf_97 : decode cX7_numberOf 97 = .ok (.if_icmp .ge 26, 3) := by decide +kernel
set_option maxRecDepth 20000 in
theorem dX7_numberOf_100 : decode cX7_numberOf 100 = .ok (.aload_n 0, 1) := by decide +kernel
set_option maxRecDepth 20000 in
theorem dX7_numberOf_101 : decode cX7_numberOf 101 = .ok (.getfield 13, 3) := by decide +kernel
set_option maxRecDepth 20000 in
theorem dX7_numberOf_104 : decode cX7_numberOf 104 = .ok (.iload 6, 2) := by decide +kernel
set_option maxRecDepth 20000 in
theorem dX7_numberOf_106 : decode cX7_numberOf 106 = .ok (.iaload, 1) := by decide +kernel
set_option maxRecDepth 20000 in
theorem dX7_numberOf_107 : decode cX7_numberOf 107 = .ok (.aload_n 0, 1) := by decide +kernel
set_option maxRecDepth 20000 in
theorem dX7_numberOf_108 : decode cX7_numberOf 108 = .ok (.getfield 13, 3) := by decide +kernel
set_option maxRecDepth 20000 in
theorem dX7_numberOf_111 : decode cX7_numberOf 111 = .ok (.iload 6, 2) := by decide +kernel
set_option maxRecDepth 20000 in
theorem dX7_numberOf_113 : decode cX7_numberOf 113 = .ok (.iconst 1, 1) := by decide +kernel
set_option maxRecDepth 20000 in
theorem dX7_numberOf_114 : decode cX7_numberOf 114 = .ok (.iadd, 1) := by decide +kernel
set_option maxRecDepth 20000 in
theorem dX7_numberOf_115 : decode cX7_numberOf 115 = .ok (.iaload, 1) := by decide +kernel
set_option maxRecDepth 20000 in
theorem dX7_numberOf_116 : decode cX7_numberOf 116 = .ok (.if_icmp .ge 7, 3) := by decide +kernel
set_option maxRecDepth 20000 in
theorem dX7_numberOf_119 : decode cX7_numberOf 119 = .ok (.iconst 1, 1) := by decide +kernel
set_option maxRecDepth 20000 in
theorem dX7_numberOf_120 : decode cX7_numberOf 120 = .ok (.goto 24, 3) := by decide +kernel
set_option maxRecDepth 20000 in
theorem dX7_numberOf_123 : decode cX7_numberOf 123 = .ok (.iconst 0, 1) := by decide +kernel
set_option maxRecDepth 20000 in
theorem dX7_numberOf_124 : decode cX7_numberOf 124 = .ok (.goto 20, 3) := by decide +kernel
set_option maxRecDepth 20000 in
theorem dX7_numberOf_127 : decode cX7_numberOf 127 = .ok (.aload_n 0, 1) := by decide +kernel
set_option maxRecDepth 20000 in
theorem dX7_numberOf_128 : decode cX7_numberOf 128 = .ok (.getfield 13, 3) := by decide +kernel
set_option maxRecDepth 20000 in
theorem dX7_numberOf_131 : decode cX7_numberOf 131 = .ok (.iload 6, 2) := by decide +kernel
set_option maxRecDepth 20000 in
theorem dX7_numberOf_133 : decode cX7_numberOf 133 = .ok (.iaload, 1) := by decide +kernel
set_option maxRecDepth 20000 in
theorem dX7_numberOf_134 : decode cX7_numberOf 134 = .ok (.iload 6, 2) := by decide +kernel
set_option maxRecDepth 20000 in
theorem dX7_numberOf_136 : decode cX7_numberOf 136 = .ok (.if_icmp .ne 7, 3) := by decide +kernel
set_option maxRecDepth 20000 in
theorem dX7_numberOf_139 : decode cX7_numberOf 139 = .ok (.iconst 1, 1) := by decide +kernel
set_option maxRecDepth 20000 in
theorem dX7_numberOf_140 : decode cX7_numberOf 140 = .ok (.goto 4, 3) := by decide +kernel
set_option maxRecDepth 20000 in
theorem dX7_numberOf_143 : decode cX7_numberOf 143 = .ok (.iconst 0, 1) := by decide +kernel
set_option maxRecDepth 20000 in
theorem dX7_numberOf_144 : decode cX7_numberOf 144 = .ok (.istore 8, 2) := by decide +kernel
set_option maxRecDepth 20000 in
theorem dX7_numberOf_146 : decode cX7_numberOf 146 = .ok (.iload_n 2, 1) := by decide +kernel
set_option maxRecDepth 20000 in
theorem dX7_numberOf_147 : decode cX7_numberOf 147 = .ok (.iload 8, 2) := by decide +kernel
set_option maxRecDepth 20000 in
theorem dX7_numberOf_149 : decode cX7_numberOf 149 = .ok (.ifCond .eq 7, 3) := by decide +kernel
set_option maxRecDepth 20000 in
theorem dX7_numberOf_152 : decode cX7_numberOf 152 = .ok (.iconst 1, 1) := by decide +kernel
set_option maxRecDepth 20000 in
theorem dX7_numberOf_153 : decode cX7_numberOf 153 = .ok (.goto 4, 3) := by decide +kernel
set_option maxRecDepth 20000 in
theorem dX7_numberOf_156 : decode cX7_numberOf 156 = .ok (.iconst 0, 1) := by decide +kernel
set_option maxRecDepth 20000 in
theorem dX7_numberOf_157 : decode cX7_numberOf 157 = .ok (.iadd, 1) := by decide +kernel
set_option maxRecDepth 20000 in
theorem dX7_numberOf_158 : decode cX7_numberOf 158 = .ok (.istore_n 2, 1) := by decide +kernel
set_option maxRecDepth 20000 in
theorem dX7_numberOf_159 : decode cX7_numberOf 159 = .ok (.iinc 6 1, 3) := by decide +kernel
set_option maxRecDepth 20000 in
theorem dX7_numberOf_162 : decode cX7_numberOf 162 = .ok (.goto (-152), 3) := by decide +kernel
set_option maxRecDepth 20000 in
theorem dX7_numberOf_165 : decode cX7_numberOf 165 = .ok (.iload_n 1, 1) := by decide +kernel
set_option maxRecDepth 20000 in
theorem dX7_numberOf_166 : decode cX7_numberOf 166 = .ok (.iconst 4, 1) := by decide +kernel
set_option maxRecDepth 20000 in
theorem dX7_numberOf_167 : decode cX7_numberOf 167 = .ok (.if_icmp .ge 7, 3) := by decide +kernel
set_option maxRecDepth 20000 in
theorem dX7_numberOf_170 : decode cX7_numberOf 170 = .ok (.iload_n 2, 1) := by decide +kernel
set_option maxRecDepth 20000 in
theorem dX7_numberOf_171 : decode cX7_numberOf 171 = .ok (.goto 40, 3) := by decide +kernel
set_option maxRecDepth 20000 in
theorem dX7_numberOf_174 : decode cX7_numberOf 174 = .ok (.iload_n 1, 1) := by decide +kernel
set_option maxRecDepth 20000 in
theorem dX7_numberOf_175 : decode cX7_numberOf 175 = .ok (.iconst 4, 1) := by decide +kernel
set_option maxRecDepth 20000 in
theorem dX7_numberOf_176 : decode cX7_numberOf 176 = .ok (.if_icmp .ne 7, 3) := by decide +kernel
set_option maxRecDepth 20000 in
theorem dX7_numberOf_179 : decode cX7_numberOf 179 = .ok (.iload_n 3, 1) := by decide +kernel
set_option maxRecDepth 20000 in
theorem dX7_numberOf_180 : decode cX7_numberOf 180 = .ok (.goto 31, 3) := by decide +kernel
set_option maxRecDepth 20000 in
theorem dX7_numberOf_183 : decode cX7_numberOf 183 = .ok (.iload_n 1, 1) := by decide +kernel
set_option maxRecDepth 20000 in
theorem dX7_numberOf_184 : decode cX7_numberOf 184 = .ok (.iconst 5, 1) := by decide +kernel
set_option maxRecDepth 20000 in
theorem dX7_numberOf_185 : decode cX7_numberOf 185 = .ok (.if_icmp .ne 10, 3) := by decide +kernel
set_option maxRecDepth 20000 in
theorem dX7_numberOf_188 : decode cX7_numberOf 188 = .ok (.aload_n 0, 1) := by decide +kernel
set_option maxRecDepth 20000 in
theorem dX7_numberOf_189 : decode cX7_numberOf 189 = .ok (.invokevirtual 80, 3) := by decide +kernel
set_option maxRecDepth 20000 in
theorem dX7_numberOf_192 : decode cX7_numberOf 192 = .ok (.goto 19, 3) := by decide +kernel
set_option maxRecDepth 20000 in
theorem dX7_numberOf_195 : decode cX7_numberOf 195 = .ok (.iload_n 1, 1) := by decide +kernel
set_option maxRecDepth 20000 in
theorem dX7_numberOf_196 : decode cX7_numberOf 196 = .ok (.bipush 6, 2) := by decide +kernel
set_option maxRecDepth 20000 in
theorem dX7_numberOf_198 : decode cX7_numberOf 198 = .ok (.if_icmp .ne 10, 3) := by decide +kernel
set_option maxRecDepth 20000 in
theorem dX7_numberOf_201 : decode cX7_numberOf 201 = .ok (.aload_n 0, 1) := by decide +kernel
set_option maxRecDepth 20000 in
theorem dX7_numberOf_202 : decode cX7_numberOf 202 = .ok (.invokevirtual 84, 3) := by decide +kernel
set_option maxRecDepth 20000 in
theorem dX7_numberOf_205 : decode cX7_numberOf 205 = .ok (.goto 6, 3) := by decide +kernel
set_option maxRecDepth 20000 in
theorem dX7_numberOf_208 : decode cX7_numberOf 208 = .ok (.lload 4, 2) := by decide +kernel
set_option maxRecDepth 20000 in
theorem dX7_numberOf_210 : decode cX7_numberOf 210 = .ok (.l2i, 1) := by decide +kernel
set_option maxRecDepth 20000 in
theorem dX7_numberOf_211 : decode cX7_numberOf 211 = .ok (.ireturn, 1) := by decide +kernel
set_option maxRecDepth 20000 in
theorem dX7_number_0 : decode cX7_number 0 = .ok (.iload_n 1, 1) := by decide +kernel
set_option maxRecDepth 20000 in
theorem dX7_number_1 : decode cX7_number 1 = .ok (.i2l, 1) := by decide +kernel
set_option maxRecDepth 20000 in
theorem dX7_number_2 : decode cX7_number 2 = .ok (.lconst 0, 1) := by decide +kernel
set_option maxRecDepth 20000 in
theorem dX7_number_3 : decode cX7_number 3 = .ok (.ldc2_w 87, 3) := by decide +kernel
set_option maxRecDepth 20000 in
theorem dX7_number_6 : decode cX7_number 6 = .ok (.invokestatic 51, 3) := by decide +kernel
set_option maxRecDepth 20000 in
theorem dX7_number_9 : decode cX7_number 9 = .ok (.ifCond .eq 11, 3) := by decide +kernel
set_option maxRecDepth 20000 in
theorem dX7_number_12 : decode cX7_number 12 = .ok (.aload_n 0, 1) := by decide +kernel
set_option maxRecDepth 20000 in
theorem dX7_number_13 : decode cX7_number 13 = .ok (.iload_n 1, 1) := by decide +kernel
set_option maxRecDepth 20000 in
theorem dX7_number_14 : decode cX7_number 14 = .ok (.invokevirtual 89, 3) := by decide +kernel
set_option maxRecDepth 20000 in
theorem dX7_number_17 : decode cX7_number 17 = .ok (.goto 5, 3) := by decide +kernel
set_option maxRecDepth 20000 in
theorem dX7_number_20 : decode cX7_number 20 = .ok (.bipush (-2), 2) := by decide +kernel
set_option maxRecDepth 20000 in
theorem dX7_number_22 : decode cX7_number 22 = .ok (.ireturn, 1) := by decide +kernel
set_option maxRecDepth 20000 in
theorem dX7_layProducts_0 : decode cX7_layProducts 0 = .ok (.aload_n 0, 1) := by decide +kernel
set_option maxRecDepth 20000 in
theorem dX7_layProducts_1 : decode cX7_layProducts 1 = .ok (.getfield 39, 3) := by decide +kernel
set_option maxRecDepth 20000 in
theorem dX7_layProducts_4 : decode cX7_layProducts 4 = .ok (.iconst 0, 1) := by decide +kernel
set_option maxRecDepth 20000 in
theorem dX7_layProducts_5 : decode cX7_layProducts 5 = .ok (.lconst 1, 1) := by decide +kernel
set_option maxRecDepth 20000 in
theorem dX7_layProducts_6 : decode cX7_layProducts 6 = .ok (.lastore, 1) := by decide +kernel
set_option maxRecDepth 20000 in
theorem dX7_layProducts_7 : decode cX7_layProducts 7 = .ok (.iconst 1, 1) := by decide +kernel
set_option maxRecDepth 20000 in
theorem dX7_layProducts_8 : decode cX7_layProducts 8 = .ok (.istore_n 1, 1) := by decide +kernel
set_option maxRecDepth 20000 in
theorem dX7_layProducts_9 : decode cX7_layProducts 9 = .ok (.iload_n 1, 1) := by decide +kernel
set_option maxRecDepth 20000 in
theorem dX7_layProducts_10 : decode cX7_layProducts 10 = .ok (.bipush 18, 2) := by decide +kernel
set_option maxRecDepth 20000 in
theorem dX7_layProducts_12 : decode cX7_layProducts 12 = .ok (.if_icmp .gt 26, 3) := by decide +kernel
set_option maxRecDepth 20000 in
theorem dX7_layProducts_15 : decode cX7_layProducts 15 = .ok (.aload_n 0, 1) := by decide +kernel
set_option maxRecDepth 20000 in
theorem dX7_layProducts_16 : decode cX7_layProducts 16 = .ok (.getfield 39, 3) := by decide +kernel
set_option maxRecDepth 20000 in
theorem dX7_layProducts_19 : decode cX7_layProducts 19 = .ok (.iload_n 1, 1) := by decide +kernel
set_option maxRecDepth 20000 in
theorem dX7_layProducts_20 : decode cX7_layProducts 20 = .ok (.aload_n 0, 1) := by decide +kernel
set_option maxRecDepth 20000 in
theorem dX7_layProducts_21 : decode cX7_layProducts 21 = .ok (.getfield 39, 3) := by decide +kernel
set_option maxRecDepth 20000 in
theorem dX7_layProducts_24 : decode cX7_layProducts 24 = .ok (.iload_n 1, 1) := by decide +kernel
set_option maxRecDepth 20000 in
theorem dX7_layProducts_25 : decode cX7_layProducts 25 = .ok (.iconst 1, 1) := by decide +kernel
set_option maxRecDepth 20000 in
theorem dX7_layProducts_26 : decode cX7_layProducts 26 = .ok (.isub, 1) := by decide +kernel
set_option maxRecDepth 20000 in
theorem dX7_layProducts_27 : decode cX7_layProducts 27 = .ok (.laload, 1) := by decide +kernel
set_option maxRecDepth 20000 in
theorem dX7_layProducts_28 : decode cX7_layProducts 28 = .ok (.iload_n 1, 1) := by decide +kernel
set_option maxRecDepth 20000 in
theorem dX7_layProducts_29 : decode cX7_layProducts 29 = .ok (.i2l, 1) := by decide +kernel
set_option maxRecDepth 20000 in
theorem dX7_layProducts_30 : decode cX7_layProducts 30 = .ok (.lmul, 1) := by decide +kernel
set_option maxRecDepth 20000 in
theorem dX7_layProducts_31 : decode cX7_layProducts 31 = .ok (.lastore, 1) := by decide +kernel
set_option maxRecDepth 20000 in
theorem dX7_layProducts_32 : decode cX7_layProducts 32 = .ok (.iinc 1 1, 3) := by decide +kernel
set_option maxRecDepth 20000 in
theorem dX7_layProducts_35 : decode cX7_layProducts 35 = .ok (.goto (-26), 3) := by decide +kernel
set_option maxRecDepth 20000 in
theorem dX7_layProducts_38 : decode cX7_layProducts 38 = .ok (.return_, 1) := by decide +kernel
set_option maxRecDepth 20000 in
theorem dX7_step_0 : decode cX7_step 0 = .ok (.iconst 0, 1) := by decide +kernel
set_option maxRecDepth 20000 in
theorem dX7_step_1 : decode cX7_step 1 = .ok (.istore_n 1, 1) := by decide +kernel
set_option maxRecDepth 20000 in
theorem dX7_step_2 : decode cX7_step 2 = .ok (.iload_n 1, 1) := by decide +kernel
set_option maxRecDepth 20000 in
theorem dX7_step_3 : decode cX7_step 3 = .ok (.sipush 210, 3) := by decide +kernel
set_option maxRecDepth 20000 in
theorem dX7_step_6 : decode cX7_step 6 = .ok (.if_icmp .gt 28, 3) := by decide +kernel
set_option maxRecDepth 20000 in
theorem dX7_step_9 : decode cX7_step 9 = .ok (.aload_n 0, 1) := by decide +kernel
set_option maxRecDepth 20000 in
theorem dX7_step_10 : decode cX7_step 10 = .ok (.getfield 36, 3) := by decide +kernel
set_option maxRecDepth 20000 in
theorem dX7_step_13 : decode cX7_step 13 = .ok (.iload_n 1, 1) := by decide +kernel
set_option maxRecDepth 20000 in
theorem dX7_step_14 : decode cX7_step 14 = .ok (.aload_n 0, 1) := by decide +kernel
set_option maxRecDepth 20000 in
theorem dX7_step_15 : decode cX7_step 15 = .ok (.getfield 32, 3) := by decide +kernel
set_option maxRecDepth 20000 in
theorem dX7_step_18 : decode cX7_step 18 = .ok (.iload_n 1, 1) := by decide +kernel
set_option maxRecDepth 20000 in
theorem dX7_step_19 : decode cX7_step 19 = .ok (.laload, 1) := by decide +kernel
set_option maxRecDepth 20000 in
theorem dX7_step_20 : decode cX7_step 20 = .ok (.lastore, 1) := by decide +kernel
set_option maxRecDepth 20000 in
theorem dX7_step_21 : decode cX7_step 21 = .ok (.aload_n 0, 1) := by decide +kernel
set_option maxRecDepth 20000 in
theorem dX7_step_22 : decode cX7_step 22 = .ok (.getfield 32, 3) := by decide +kernel
set_option maxRecDepth 20000 in
theorem dX7_step_25 : decode cX7_step 25 = .ok (.iload_n 1, 1) := by decide +kernel
set_option maxRecDepth 20000 in
theorem dX7_step_26 : decode cX7_step 26 = .ok (.lconst 0, 1) := by decide +kernel
set_option maxRecDepth 20000 in
theorem dX7_step_27 : decode cX7_step 27 = .ok (.lastore, 1) := by decide +kernel
set_option maxRecDepth 20000 in
theorem dX7_step_28 : decode cX7_step 28 = .ok (.iinc 1 1, 3) := by decide +kernel
set_option maxRecDepth 20000 in
theorem dX7_step_31 : decode cX7_step 31 = .ok (.goto (-29), 3) := by decide +kernel
set_option maxRecDepth 20000 in
theorem dX7_step_34 : decode cX7_step 34 = .ok (.return_, 1) := by decide +kernel
set_option maxRecDepth 20000 in
theorem dX7_countByThings_0 : decode cX7_countByThings 0 = .ok (.iconst 0, 1) := by decide +kernel
set_option maxRecDepth 20000 in
theorem dX7_countByThings_1 : decode cX7_countByThings 1 = .ok (.istore_n 2, 1) := by decide +kernel
set_option maxRecDepth 20000 in
theorem dX7_countByThings_2 : decode cX7_countByThings 2 = .ok (.iload_n 2, 1) := by decide +kernel
set_option maxRecDepth 20000 in
theorem dX7_countByThings_3 : decode cX7_countByThings 3 = .ok (.sipush 210, 3) := by decide +kernel
set_option maxRecDepth 20000 in
theorem dX7_countByThings_6 : decode cX7_countByThings 6 = .ok (.if_icmp .gt 34, 3) := by decide +kernel
set_option maxRecDepth 20000 in
theorem dX7_countByThings_9 : decode cX7_countByThings 9 = .ok (.aload_n 0, 1) := by decide +kernel
set_option maxRecDepth 20000 in
theorem dX7_countByThings_10 : decode cX7_countByThings 10 = .ok (.getfield 32, 3) := by decide +kernel
set_option maxRecDepth 20000 in
theorem dX7_countByThings_13 : decode cX7_countByThings 13 = .ok (.iload_n 2, 1) := by decide +kernel
set_option maxRecDepth 20000 in
theorem dX7_countByThings_14 : decode cX7_countByThings 14 = .ok (.iload_n 2, 1) := by decide +kernel
set_option maxRecDepth 20000 in
theorem dX7_countByThings_15 : decode cX7_countByThings 15 = .ok (.iload_n 1, 1) := by decide +kernel
set_option maxRecDepth 20000 in
theorem dX7_countByThings_16 : decode cX7_countByThings 16 = .ok (.iconst 2, 1) := by decide +kernel
set_option maxRecDepth 20000 in
theorem dX7_countByThings_17 : decode cX7_countByThings 17 = .ok (.if_icmp .ge 7, 3) := by decide +kernel
set_option maxRecDepth 20000 in
theorem dX7_countByThings_20 : decode cX7_countByThings 20 = .ok (.iconst 1, 1) := by decide +kernel
set_option maxRecDepth 20000 in
theorem dX7_countByThings_21 : decode cX7_countByThings 21 = .ok (.goto 4, 3) := by decide +kernel
set_option maxRecDepth 20000 in
theorem dX7_countByThings_24 : decode cX7_countByThings 24 = .ok (.iconst 0, 1) := by decide +kernel
set_option maxRecDepth 20000 in
theorem dX7_countByThings_25 : decode cX7_countByThings 25 = .ok (.if_icmp .ne 7, 3) := by decide +kernel
set_option maxRecDepth 20000 in
theorem dX7_countByThings_28 : decode cX7_countByThings 28 = .ok (.lconst 1, 1) := by decide +kernel
set_option maxRecDepth 20000 in
theorem dX7_countByThings_29 : decode cX7_countByThings 29 = .ok (.goto 4, 3) := by decide +kernel
set_option maxRecDepth 20000 in
theorem dX7_countByThings_32 : decode cX7_countByThings 32 = .ok (.lconst 0, 1) := by decide +kernel
set_option maxRecDepth 20000 in
theorem dX7_countByThings_33 : decode cX7_countByThings 33 = .ok (.lastore, 1) := by decide +kernel
set_option maxRecDepth 20000 in
theorem dX7_countByThings_34 : decode cX7_countByThings 34 = .ok (.iinc 2 1, 3) := by decide +kernel
set_option maxRecDepth 20000 in
theorem dX7_countByThings_37 : decode cX7_countByThings 37 = .ok (.goto (-35), 3) := by decide +kernel
set_option maxRecDepth 20000 in
theorem dX7_countByThings_40 : decode cX7_countByThings 40 = .ok (.iconst 2, 1) := by decide +kernel
set_option maxRecDepth 20000 in
theorem dX7_countByThings_41 : decode cX7_countByThings 41 = .ok (.istore_n 2, 1) := by decide +kernel
set_option maxRecDepth 20000 in
theorem dX7_countByThings_42 : decode cX7_countByThings 42 = .ok (.iload_n 2, 1) := by decide +kernel
set_option maxRecDepth 20000 in
theorem dX7_countByThings_43 : decode cX7_countByThings 43 = .ok (.aload_n 0, 1) := by decide +kernel
set_option maxRecDepth 20000 in
theorem dX7_countByThings_44 : decode cX7_countByThings 44 = .ok (.getfield 7, 3) := by decide +kernel
set_option maxRecDepth 20000 in
theorem dX7_countByThings_47 : decode cX7_countByThings 47 = .ok (.if_icmp .gt 155, 3) := by decide +kernel
set_option maxRecDepth 20000 in
theorem dX7_countByThings_50 : decode cX7_countByThings 50 = .ok (.aload_n 0, 1) := by decide +kernel
set_option maxRecDepth 20000 in
theorem dX7_countByThings_51 : decode cX7_countByThings 51 = .ok (.invokevirtual 92, 3) := by decide +kernel
set_option maxRecDepth 20000 in
theorem dX7_countByThings_54 : decode cX7_countByThings 54 = .ok (.iconst 0, 1) := by decide +kernel
set_option maxRecDepth 20000 in
theorem dX7_countByThings_55 : decode cX7_countByThings 55 = .ok (.istore_n 3, 1) := by decide +kernel
set_option maxRecDepth 20000 in
theorem dX7_countByThings_56 : decode cX7_countByThings 56 = .ok (.iload_n 3, 1) := by decide +kernel
set_option maxRecDepth 20000 in
theorem dX7_countByThings_57 : decode cX7_countByThings 57 = .ok (.sipush 210, 3) := by decide +kernel
set_option maxRecDepth 20000 in
theorem dX7_countByThings_60 : decode cX7_countByThings 60 = .ok (.if_icmp .gt 136, 3) := by decide +kernel
set_option maxRecDepth 20000 in
theorem dX7_countByThings_63 : decode cX7_countByThings 63 = .ok (.iload_n 3, 1) := by decide +kernel
set_option maxRecDepth 20000 in
theorem dX7_countByThings_64 : decode cX7_countByThings 64 = .ok (.ifCond .le 14, 3) := by decide +kernel
set_option maxRecDepth 20000 in
theorem dX7_countByThings_67 : decode cX7_countByThings 67 = .ok (.aload_n 0, 1) := by decide +kernel
set_option maxRecDepth 20000 in
theorem dX7_countByThings_68 : decode cX7_countByThings 68 = .ok (.getfield 36, 3) := by decide +kernel
set_option maxRecDepth 20000 in
theorem dX7_countByThings_71 : decode cX7_countByThings 71 = .ok (.iload_n 3, 1) := by decide +kernel
set_option maxRecDepth 20000 in
theorem dX7_countByThings_72 : decode cX7_countByThings 72 = .ok (.iconst 1, 1) := by decide +kernel
set_option maxRecDepth 20000 in
theorem dX7_countByThings_73 : decode cX7_countByThings 73 = .ok (.isub, 1) := by decide +kernel
set_option maxRecDepth 20000 in
theorem dX7_countByThings_74 : decode cX7_countByThings 74 = .ok (.laload, 1) := by decide +kernel
set_option maxRecDepth 20000 in
theorem dX7_countByThings_75 : decode cX7_countByThings 75 = .ok (.goto 4, 3) := by decide +kernel
set_option maxRecDepth 20000 in
theorem dX7_countByThings_78 : decode cX7_countByThings 78 = .ok (.lconst 0, 1) := by decide +kernel
set_option maxRecDepth 20000 in
theorem dX7_countByThings_79 : decode cX7_countByThings 79 = .ok (.lstore 4, 2) := by decide +kernel
set_option maxRecDepth 20000 in
theorem dX7_countByThings_81 : decode cX7_countByThings 81 = .ok (.iload_n 1, 1) := by decide +kernel
set_option maxRecDepth 20000 in
theorem dX7_countByThings_82 : decode cX7_countByThings 82 = .ok (.iconst 2, 1) := by decide +kernel
set_option maxRecDepth 20000 in
theorem dX7_countByThings_83 : decode cX7_countByThings 83 = .ok (.if_icmp .ge 26, 3) := by decide +kernel
set_option maxRecDepth 20000 in
theorem dX7_countByThings_86 : decode cX7_countByThings 86 = .ok (.aload_n 0, 1) := by decide +kernel
set_option maxRecDepth 20000 in
theorem dX7_countByThings_87 : decode cX7_countByThings 87 = .ok (.getfield 32, 3) := by decide +kernel
set_option maxRecDepth 20000 in
theorem dX7_countByThings_90 : decode cX7_countByThings 90 = .ok (.iload_n 3, 1) := by decide +kernel
set_option maxRecDepth 20000 in
theorem dX7_countByThings_91 : decode cX7_countByThings 91 = .ok (.aload_n 0, 1) := by decide +kernel
set_option maxRecDepth 20000 in
theorem dX7_countByThings_92 : decode cX7_countByThings 92 = .ok (.getfield 36, 3) := by decide +kernel
set_option maxRecDepth 20000 in
theorem dX7_countByThings_95 : decode cX7_countByThings 95 = .ok (.iload_n 3, 1) := by decide +kernel
set_option maxRecDepth 20000 in
theorem dX7_countByThings_96 : decode cX7_countByThings 96 = .ok (.laload, 1) := by decide +kernel
set_option maxRecDepth 20000 in
theorem dX7_countByThings_97 : decode cX7_countByThings 97 = .ok (.iload_n 2, 1) := by decide +kernel
set_option maxRecDepth 20000 in
theorem dX7_countByThings_98 : decode cX7_countByThings 98 = .ok (.iconst 1, 1) := by decide +kernel
set_option maxRecDepth 20000 in
theorem dX7_countByThings_99 : decode cX7_countByThings 99 = .ok (.isub, 1) := by decide +kernel
set_option maxRecDepth 20000 in
theorem dX7_countByThings_100 : decode cX7_countByThings 100 = .ok (.i2l, 1) := by decide +kernel
set_option maxRecDepth 20000 in
theorem dX7_countByThings_101 : decode cX7_countByThings 101 = .ok (.lmul, 1) := by decide +kernel
set_option maxRecDepth 20000 in
theorem dX7_countByThings_102 : decode cX7_countByThings 102 = .ok (.lload 4, 2) := by decide +kernel
set_option maxRecDepth 20000 in
theorem dX7_countByThings_104 : decode cX7_countByThings 104 = .ok (.ladd, 1) := by decide +kernel
set_option maxRecDepth 20000 in
theorem dX7_countByThings_105 : decode cX7_countByThings 105 = .ok (.lastore, 1) := by decide +kernel
set_option maxRecDepth 20000 in
theorem dX7_countByThings_106 : decode cX7_countByThings 106 = .ok (.goto 84, 3) := by decide +kernel
set_option maxRecDepth 20000 in
theorem dX7_countByThings_109 : decode cX7_countByThings 109 = .ok (.iload_n 1, 1) := by decide +kernel
set_option maxRecDepth 20000 in
theorem dX7_countByThings_110 : decode cX7_countByThings 110 = .ok (.iconst 2, 1) := by decide +kernel
set_option maxRecDepth 20000 in
theorem dX7_countByThings_111 : decode cX7_countByThings 111 = .ok (.if_icmp .ne 40, 3) := by decide +kernel
set_option maxRecDepth 20000 in
theorem dX7_countByThings_114 : decode cX7_countByThings 114 = .ok (.aload_n 0, 1) := by decide +kernel
set_option maxRecDepth 20000 in
theorem dX7_countByThings_115 : decode cX7_countByThings 115 = .ok (.getfield 32, 3) := by decide +kernel
set_option maxRecDepth 20000 in
theorem dX7_countByThings_118 : decode cX7_countByThings 118 = .ok (.iload_n 3, 1) := by decide +kernel
set_option maxRecDepth 20000 in
theorem dX7_countByThings_119 : decode cX7_countByThings 119 = .ok (.iload_n 3, 1) := by decide +kernel
set_option maxRecDepth 20000 in
theorem dX7_countByThings_120 : decode cX7_countByThings 120 = .ok (.iload_n 2, 1) := by decide +kernel
set_option maxRecDepth 20000 in
theorem dX7_countByThings_121 : decode cX7_countByThings 121 = .ok (.if_icmp .ge 25, 3) := by decide +kernel
set_option maxRecDepth 20000 in
theorem dX7_countByThings_124 : decode cX7_countByThings 124 = .ok (.aload_n 0, 1) := by decide +kernel
set_option maxRecDepth 20000 in
theorem dX7_countByThings_125 : decode cX7_countByThings 125 = .ok (.getfield 36, 3) := by decide +kernel
set_option maxRecDepth 20000 in
theorem dX7_countByThings_128 : decode cX7_countByThings 128 = .ok (.iload_n 3, 1) := by decide +kernel
set_option maxRecDepth 20000 in
theorem dX7_countByThings_129 : decode cX7_countByThings 129 = .ok (.laload, 1) := by decide +kernel
set_option maxRecDepth 20000 in
theorem dX7_countByThings_130 : decode cX7_countByThings 130 = .ok (.iload_n 3, 1) := by decide +kernel
set_option maxRecDepth 20000 in
theorem dX7_countByThings_131 : decode cX7_countByThings 131 = .ok (.iconst 1, 1) := by decide +kernel
set_option maxRecDepth 20000 in
theorem dX7_countByThings_132 : decode cX7_countByThings 132 = .ok (.iadd, 1) := by decide +kernel
set_option maxRecDepth 20000 in
theorem dX7_countByThings_133 : decode cX7_countByThings 133 = .ok (.i2l, 1) := by decide +kernel
set_option maxRecDepth 20000 in
theorem dX7_countByThings_134 : decode cX7_countByThings 134 = .ok (.lmul, 1) := by decide +kernel
set_option maxRecDepth 20000 in
theorem dX7_countByThings_135 : decode cX7_countByThings 135 = .ok (.lload 4, 2) := by decide +kernel
set_option maxRecDepth 20000 in
theorem dX7_countByThings_137 : decode cX7_countByThings 137 = .ok (.iload_n 2, 1) := by decide +kernel
set_option maxRecDepth 20000 in
theorem dX7_countByThings_138 : decode cX7_countByThings 138 = .ok (.iload_n 3, 1) := by decide +kernel
set_option maxRecDepth 20000 in
theorem dX7_countByThings_139 : decode cX7_countByThings 139 = .ok (.isub, 1) := by decide +kernel
set_option maxRecDepth 20000 in
theorem dX7_countByThings_140 : decode cX7_countByThings 140 = .ok (.i2l, 1) := by decide +kernel
set_option maxRecDepth 20000 in
theorem dX7_countByThings_141 : decode cX7_countByThings 141 = .ok (.lmul, 1) := by decide +kernel
set_option maxRecDepth 20000 in
theorem dX7_countByThings_142 : decode cX7_countByThings 142 = .ok (.ladd, 1) := by decide +kernel
set_option maxRecDepth 20000 in
theorem dX7_countByThings_143 : decode cX7_countByThings 143 = .ok (.goto 4, 3) := by decide +kernel
set_option maxRecDepth 20000 in
theorem dX7_countByThings_146 : decode cX7_countByThings 146 = .ok (.lconst 0, 1) := by decide +kernel
set_option maxRecDepth 20000 in
theorem dX7_countByThings_147 : decode cX7_countByThings 147 = .ok (.lastore, 1) := by decide +kernel
set_option maxRecDepth 20000 in
theorem dX7_countByThings_148 : decode cX7_countByThings 148 = .ok (.goto 42, 3) := by decide +kernel
set_option maxRecDepth 20000 in
theorem dX7_countByThings_151 : decode cX7_countByThings 151 = .ok (.iconst 0, 1) := by decide +kernel
set_option maxRecDepth 20000 in
theorem dX7_countByThings_152 : decode cX7_countByThings 152 = .ok (.istore 6, 2) := by decide +kernel
set_option maxRecDepth 20000 in
theorem dX7_countByThings_154 : decode cX7_countByThings 154 = .ok (.iload 6, 2) := by decide +kernel
set_option maxRecDepth 20000 in
theorem dX7_countByThings_156 : decode cX7_countByThings 156 = .ok (.iload_n 2, 1) := by decide +kernel
set_option maxRecDepth 20000 in
theorem dX7_countByThings_157 : decode cX7_countByThings 157 = .ok (.if_icmp .ge 33, 3) := by decide +kernel
set_option maxRecDepth 20000 in
theorem dX7_countByThings_160 : decode cX7_countByThings 160 = .ok (.iload 6, 2) := by decide +kernel
set_option maxRecDepth 20000 in
theorem dX7_countByThings_162 : decode cX7_countByThings 162 = .ok (.iload_n 3, 1) := by decide +kernel
set_option maxRecDepth 20000 in
theorem dX7_countByThings_163 : decode cX7_countByThings 163 = .ok (.if_icmp .gt 27, 3) := by decide +kernel
set_option maxRecDepth 20000 in
theorem dX7_countByThings_166 : decode cX7_countByThings 166 = .ok (.aload_n 0, 1) := by decide +kernel
set_option maxRecDepth 20000 in
theorem dX7_countByThings_167 : decode cX7_countByThings 167 = .ok (.getfield 32, 3) := by decide +kernel
set_option maxRecDepth 20000 in
theorem dX7_countByThings_170 : decode cX7_countByThings 170 = .ok (.iload_n 3, 1) := by decide +kernel
set_option maxRecDepth 20000 in
theorem dX7_countByThings_171 : decode cX7_countByThings 171 = .ok (.dup2, 1) := by decide +kernel
set_option maxRecDepth 20000 in
theorem dX7_countByThings_172 : decode cX7_countByThings 172 = .ok (.laload, 1) := by decide +kernel
set_option maxRecDepth 20000 in
theorem dX7_countByThings_173 : decode cX7_countByThings 173 = .ok (.aload_n 0, 1) := by decide +kernel
set_option maxRecDepth 20000 in
theorem dX7_countByThings_174 : decode cX7_countByThings 174 = .ok (.getfield 36, 3) := by decide +kernel
set_option maxRecDepth 20000 in
theorem dX7_countByThings_177 : decode cX7_countByThings 177 = .ok (.iload_n 3, 1) := by decide +kernel
set_option maxRecDepth 20000 in
theorem dX7_countByThings_178 : decode cX7_countByThings 178 = .ok (.iload 6, 2) := by decide +kernel
set_option maxRecDepth 20000 in
theorem dX7_countByThings_180 : decode cX7_countByThings 180 = .ok (.isub, 1) := by decide +kernel
set_option maxRecDepth 20000 in
theorem dX7_countByThings_181 : decode cX7_countByThings 181 = .ok (.laload, 1) := by decide +kernel
set_option maxRecDepth 20000 in
theorem dX7_countByThings_182 : decode cX7_countByThings 182 = .ok (.ladd, 1) := by decide +kernel
set_option maxRecDepth 20000 in
theorem dX7_countByThings_183 : decode cX7_countByThings 183 = .ok (.lastore, 1) := by decide +kernel
set_option maxRecDepth 20000 in
theorem dX7_countByThings_184 : decode cX7_countByThings 184 = .ok (.iinc 6 1, 3) := by decide +kernel
set_option maxRecDepth 20000 in
theorem dX7_countByThings_187 : decode cX7_countByThings 187 = .ok (.goto (-33), 3) := by decide +kernel
set_option maxRecDepth 20000 in
theorem dX7_countByThings_190 : decode cX7_countByThings 190 = .ok (.iinc 3 1, 3) := by decide +kernel
set_option maxRecDepth 20000 in
theorem dX7_countByThings_193 : decode cX7_countByThings 193 = .ok (.goto (-137), 3) := by decide +kernel
set_option maxRecDepth 20000 in
theorem dX7_countByThings_196 : decode cX7_countByThings 196 = .ok (.iinc 2 1, 3) := by decide +kernel
set_option maxRecDepth 20000 in
theorem dX7_countByThings_199 : decode cX7_countByThings 199 = .ok (.goto (-157), 3) := by decide +kernel
set_option maxRecDepth 20000 in
theorem dX7_countByThings_202 : decode cX7_countByThings 202 = .ok (.return_, 1) := by decide +kernel
set_option maxRecDepth 20000 in
theorem dX7_nextShape_0 : decode cX7_nextShape 0 = .ok (.iconst 0, 1) := by decide +kernel
set_option maxRecDepth 20000 in
theorem dX7_nextShape_1 : decode cX7_nextShape 1 = .ok (.istore_n 1, 1) := by decide +kernel
set_option maxRecDepth 20000 in
theorem dX7_nextShape_2 : decode cX7_nextShape 2 = .ok (.aload_n 0, 1) := by decide +kernel
set_option maxRecDepth 20000 in
theorem dX7_nextShape_3 : decode cX7_nextShape 3 = .ok (.getfield 95, 3) := by decide +kernel
set_option maxRecDepth 20000 in
theorem dX7_nextShape_6 : decode cX7_nextShape 6 = .ok (.ifCond .le 34, 3) := by decide +kernel
set_option maxRecDepth 20000 in
theorem dX7_nextShape_9 : decode cX7_nextShape 9 = .ok (.aload_n 0, 1) := by decide +kernel
set_option maxRecDepth 20000 in
theorem dX7_nextShape_10 : decode cX7_nextShape 10 = .ok (.getfield 42, 3) := by decide +kernel
set_option maxRecDepth 20000 in
theorem dX7_nextShape_13 : decode cX7_nextShape 13 = .ok (.aload_n 0, 1) := by decide +kernel
set_option maxRecDepth 20000 in
theorem dX7_nextShape_14 : decode cX7_nextShape 14 = .ok (.getfield 95, 3) := by decide +kernel
set_option maxRecDepth 20000 in
theorem dX7_nextShape_17 : decode cX7_nextShape 17 = .ok (.iconst 1, 1) := by decide +kernel
set_option maxRecDepth 20000 in
theorem dX7_nextShape_18 : decode cX7_nextShape 18 = .ok (.isub, 1) := by decide +kernel
set_option maxRecDepth 20000 in
theorem dX7_nextShape_19 : decode cX7_nextShape 19 = .ok (.iaload, 1) := by decide +kernel
set_option maxRecDepth 20000 in
theorem dX7_nextShape_20 : decode cX7_nextShape 20 = .ok (.iconst 1, 1) := by decide +kernel
set_option maxRecDepth 20000 in
theorem dX7_nextShape_21 : decode cX7_nextShape 21 = .ok (.if_icmp .ne 19, 3) := by decide +kernel
set_option maxRecDepth 20000 in
theorem dX7_nextShape_24 : decode cX7_nextShape 24 = .ok (.aload_n 0, 1) := by decide +kernel
set_option maxRecDepth 20000 in
theorem dX7_nextShape_25 : decode cX7_nextShape 25 = .ok (.dup, 1) := by decide +kernel
set_option maxRecDepth 20000 in
theorem dX7_nextShape_26 : decode cX7_nextShape 26 = .ok (.getfield 95, 3) := by decide +kernel
set_option maxRecDepth 20000 in
theorem dX7_nextShape_29 : decode cX7_nextShape 29 = .ok (.iconst 1, 1) := by decide +kernel
set_option maxRecDepth 20000 in
theorem dX7_nextShape_30 : decode cX7_nextShape 30 = .ok (.isub, 1) := by decide +kernel
set_option maxRecDepth 20000 in
theorem dX7_nextShape_31 : decode cX7_nextShape 31 = .ok (.putfield 95, 3) := by decide +kernel
set_option maxRecDepth 20000 in
theorem dX7_nextShape_34 : decode cX7_nextShape 34 = .ok (.iinc 1 1, 3) := by decide +kernel
set_option maxRecDepth 20000 in
theorem dX7_nextShape_37 : decode cX7_nextShape 37 = .ok (.goto (-35), 3) := by decide +kernel
set_option maxRecDepth 20000 in
theorem dX7_nextShape_40 : decode cX7_nextShape 40 = .ok (.aload_n 0, 1) := by decide +kernel
set_option maxRecDepth 20000 in
theorem dX7_nextShape_41 : decode cX7_nextShape 41 = .ok (.getfield 95, 3) := by decide +kernel
set_option maxRecDepth 20000 in
theorem dX7_nextShape_44 : decode cX7_nextShape 44 = .ok (.ifCond .ne 5, 3) := by decide +kernel
set_option maxRecDepth 20000 in
theorem dX7_nextShape_47 : decode cX7_nextShape 47 = .ok (.iconst 0, 1) := by decide +kernel
set_option maxRecDepth 20000 in
theorem dX7_nextShape_48 : decode cX7_nextShape 48 = .ok (.ireturn, 1) := by decide +kernel
set_option maxRecDepth 20000 in
theorem dX7_nextShape_49 : decode cX7_nextShape 49 = .ok (.aload_n 0, 1) := by decide +kernel
set_option maxRecDepth 20000 in
theorem dX7_nextShape_50 : decode cX7_nextShape 50 = .ok (.getfield 42, 3) := by decide +kernel
set_option maxRecDepth 20000 in
theorem dX7_nextShape_53 : decode cX7_nextShape 53 = .ok (.aload_n 0, 1) := by decide +kernel
set_option maxRecDepth 20000 in
theorem dX7_nextShape_54 : decode cX7_nextShape 54 = .ok (.getfield 95, 3) := by decide +kernel
set_option maxRecDepth 20000 in
theorem dX7_nextShape_57 : decode cX7_nextShape 57 = .ok (.iconst 1, 1) := by decide +kernel
set_option maxRecDepth 20000 in
theorem dX7_nextShape_58 : decode cX7_nextShape 58 = .ok (.isub, 1) := by decide +kernel
set_option maxRecDepth 20000 in
theorem dX7_nextShape_59 : decode cX7_nextShape 59 = .ok (.dup2, 1) := by decide +kernel
set_option maxRecDepth 20000 in
theorem dX7_nextShape_60 : decode cX7_nextShape 60 = .ok (.iaload, 1) := by decide +kernel
set_option maxRecDepth 20000 in
theorem dX7_nextShape_61 : decode cX7_nextShape 61 = .ok (.iconst 1, 1) := by decide +kernel
set_option maxRecDepth 20000 in
theorem dX7_nextShape_62 : decode cX7_nextShape 62 = .ok (.isub, 1) := by decide +kernel
set_option maxRecDepth 20000 in
theorem dX7_nextShape_63 : decode cX7_nextShape 63 = .ok (.iastore, 1) := by decide +kernel
set_option maxRecDepth 20000 in
theorem dX7_nextShape_64 : decode cX7_nextShape 64 = .ok (.iload_n 1, 1) := by decide +kernel
set_option maxRecDepth 20000 in
theorem dX7_nextShape_65 : decode cX7_nextShape 65 = .ok (.iconst 1, 1) := by decide +kernel
set_option maxRecDepth 20000 in
theorem dX7_nextShape_66 : decode cX7_nextShape 66 = .ok (.iadd, 1) := by decide +kernel
set_option maxRecDepth 20000 in
theorem dX7_nextShape_67 : decode cX7_nextShape 67 = .ok (.istore_n 2, 1) := by decide +kernel
set_option maxRecDepth 20000 in
theorem dX7_nextShape_68 : decode cX7_nextShape 68 = .ok (.aload_n 0, 1) := by decide +kernel
set_option maxRecDepth 20000 in
theorem dX7_nextShape_69 : decode cX7_nextShape 69 = .ok (.getfield 42, 3) := by decide +kernel
set_option maxRecDepth 20000 in
theorem dX7_nextShape_72 : decode cX7_nextShape 72 = .ok (.aload_n 0, 1) := by decide +kernel
set_option maxRecDepth 20000 in
theorem dX7_nextShape_73 : decode cX7_nextShape 73 = .ok (.getfield 95, 3) := by decide +kernel
set_option maxRecDepth 20000 in
theorem dX7_nextShape_76 : decode cX7_nextShape 76 = .ok (.iconst 1, 1) := by decide +kernel
set_option maxRecDepth 20000 in
theorem dX7_nextShape_77 : decode cX7_nextShape 77 = .ok (.isub, 1) := by decide +kernel
set_option maxRecDepth 20000 in
theorem dX7_nextShape_78 : decode cX7_nextShape 78 = .ok (.iaload, 1) := by decide +kernel
set_option maxRecDepth 20000 in
theorem dX7_nextShape_79 : decode cX7_nextShape 79 = .ok (.istore_n 3, 1) := by decide +kernel
set_option maxRecDepth 20000 in
theorem dX7_nextShape_80 : decode cX7_nextShape 80 = .ok (.iload_n 2, 1) := by decide +kernel
set_option maxRecDepth 20000 in
theorem dX7_nextShape_81 : decode cX7_nextShape 81 = .ok (.ifCond .le 47, 3) := by decide +kernel
set_option maxRecDepth 20000 in
theorem dX7_nextShape_84 : decode cX7_nextShape 84 = .ok (.aload_n 0, 1) := by decide +kernel
set_option maxRecDepth 20000 in
theorem dX7_nextShape_85 : decode cX7_nextShape 85 = .ok (.getfield 42, 3) := by decide +kernel
set_option maxRecDepth 20000 in
theorem dX7_nextShape_88 : decode cX7_nextShape 88 = .ok (.aload_n 0, 1) := by decide +kernel
set_option maxRecDepth 20000 in
theorem dX7_nextShape_89 : decode cX7_nextShape 89 = .ok (.getfield 95, 3) := by decide +kernel
set_option maxRecDepth 20000 in
theorem dX7_nextShape_92 : decode cX7_nextShape 92 = .ok (.iload_n 2, 1) := by decide +kernel
set_option maxRecDepth 20000 in
theorem dX7_nextShape_93 : decode cX7_nextShape 93 = .ok (.iload_n 3, 1) := by decide +kernel
set_option maxRecDepth 20000 in
theorem dX7_nextShape_94 : decode cX7_nextShape 94 = .ok (.if_icmp .ge 7, 3) := by decide +kernel
set_option maxRecDepth 20000 in
theorem dX7_nextShape_97 : decode cX7_nextShape 97 = .ok (.iload_n 2, 1) := by decide +kernel
set_option maxRecDepth 20000 in
theorem dX7_nextShape_98 : decode cX7_nextShape 98 = .ok (.goto 4, 3) := by decide +kernel
set_option maxRecDepth 20000 in
theorem dX7_nextShape_101 : decode cX7_nextShape 101 = .ok (.iload_n 3, 1) := by decide +kernel
set_option maxRecDepth 20000 in
theorem dX7_nextShape_102 : decode cX7_nextShape 102 = .ok (.iastore, 1) := by decide +kernel
set_option maxRecDepth 20000 in
theorem dX7_nextShape_103 : decode cX7_nextShape 103 = .ok (.iload_n 2, 1) := by decide +kernel
set_option maxRecDepth 20000 in
theorem dX7_nextShape_104 : decode cX7_nextShape 104 = .ok (.aload_n 0, 1) := by decide +kernel
set_option maxRecDepth 20000 in
theorem dX7_nextShape_105 : decode cX7_nextShape 105 = .ok (.getfield 42, 3) := by decide +kernel
set_option maxRecDepth 20000 in
theorem dX7_nextShape_108 : decode cX7_nextShape 108 = .ok (.aload_n 0, 1) := by decide +kernel
set_option maxRecDepth 20000 in
theorem dX7_nextShape_109 : decode cX7_nextShape 109 = .ok (.getfield 95, 3) := by decide +kernel
set_option maxRecDepth 20000 in
theorem dX7_nextShape_112 : decode cX7_nextShape 112 = .ok (.iaload, 1) := by decide +kernel
set_option maxRecDepth 20000 in
theorem dX7_nextShape_113 : decode cX7_nextShape 113 = .ok (.isub, 1) := by decide +kernel
set_option maxRecDepth 20000 in
theorem dX7_nextShape_114 : decode cX7_nextShape 114 = .ok (.istore_n 2, 1) := by decide +kernel
set_option maxRecDepth 20000 in
theorem dX7_nextShape_115 : decode cX7_nextShape 115 = .ok (.aload_n 0, 1) := by decide +kernel
set_option maxRecDepth 20000 in
theorem dX7_nextShape_116 : decode cX7_nextShape 116 = .ok (.dup, 1) := by decide +kernel
set_option maxRecDepth 20000 in
theorem dX7_nextShape_117 : decode cX7_nextShape 117 = .ok (.getfield 95, 3) := by decide +kernel
set_option maxRecDepth 20000 in
theorem dX7_nextShape_120 : decode cX7_nextShape 120 = .ok (.iconst 1, 1) := by decide +kernel
set_option maxRecDepth 20000 in
theorem dX7_nextShape_121 : decode cX7_nextShape 121 = .ok (.iadd, 1) := by decide +kernel
set_option maxRecDepth 20000 in
theorem dX7_nextShape_122 : decode cX7_nextShape 122 = .ok (.putfield 95, 3) := by decide +kernel
set_option maxRecDepth 20000 in
theorem dX7_nextShape_125 : decode cX7_nextShape 125 = .ok (.goto (-45), 3) := by decide +kernel
set_option maxRecDepth 20000 in
theorem dX7_nextShape_128 : decode cX7_nextShape 128 = .ok (.iconst 1, 1) := by decide +kernel
set_option maxRecDepth 20000 in
theorem dX7_nextShape_129 : decode cX7_nextShape 129 = .ok (.ireturn, 1) := by decide +kernel
set_option maxRecDepth 20000 in
theorem dX7_byRounds_0 : decode cX7_byRounds 0 = .ok (.aload_n 0, 1) := by decide +kernel
set_option maxRecDepth 20000 in
theorem dX7_byRounds_1 : decode cX7_byRounds 1 = .ok (.getfield 39, 3) := by decide +kernel
set_option maxRecDepth 20000 in
theorem dX7_byRounds_4 : decode cX7_byRounds 4 = .ok (.aload_n 0, 1) := by decide +kernel
set_option maxRecDepth 20000 in
theorem dX7_byRounds_5 : decode cX7_byRounds 5 = .ok (.getfield 7, 3) := by decide +kernel
set_option maxRecDepth 20000 in
theorem dX7_byRounds_8 : decode cX7_byRounds 8 = .ok (.laload, 1) := by decide +kernel
set_option maxRecDepth 20000 in
theorem dX7_byRounds_9 : decode cX7_byRounds 9 = .ok (.lstore_n 1, 1) := by decide +kernel
set_option maxRecDepth 20000 in
theorem dX7_byRounds_10 : decode cX7_byRounds 10 = .ok (.iconst 0, 1) := by decide +kernel
set_option maxRecDepth 20000 in
theorem dX7_byRounds_11 : decode cX7_byRounds 11 = .ok (.istore_n 3, 1) := by decide +kernel
set_option maxRecDepth 20000 in
theorem dX7_byRounds_12 : decode cX7_byRounds 12 = .ok (.iconst 0, 1) := by decide +kernel
set_option maxRecDepth 20000 in
theorem dX7_byRounds_13 : decode cX7_byRounds 13 = .ok (.istore 4, 2) := by decide +kernel
set_option maxRecDepth 20000 in
theorem dX7_byRounds_15 : decode cX7_byRounds 15 = .ok (.iload 4, 2) := by decide +kernel
set_option maxRecDepth 20000 in
theorem dX7_byRounds_17 : decode cX7_byRounds 17 = .ok (.aload_n 0, 1) := by decide +kernel
set_option maxRecDepth 20000 in
theorem dX7_byRounds_18 : decode cX7_byRounds 18 = .ok (.getfield 95, 3) := by decide +kernel
set_option maxRecDepth 20000 in
theorem dX7_byRounds_21 : decode cX7_byRounds 21 = .ok (.if_icmp .ge 55, 3) := by decide +kernel
set_option maxRecDepth 20000 in
theorem dX7_byRounds_24 : decode cX7_byRounds 24 = .ok (.iload 4, 2) := by decide +kernel
set_option maxRecDepth 20000 in
theorem dX7_byRounds_26 : decode cX7_byRounds 26 = .ok (.ifCond .le 28, 3) := by decide +kernel
set_option maxRecDepth 20000 in
theorem dX7_byRounds_29 : decode cX7_byRounds 29 = .ok (.aload_n 0, 1) := by decide +kernel
set_option maxRecDepth 20000 in
theorem dX7_byRounds_30 : decode cX7_byRounds 30 = .ok (.getfield 42, 3) := by decide +kernel
set_option maxRecDepth 20000 in
theorem dX7_byRounds_33 : decode cX7_byRounds 33 = .ok (.iload 4, 2) := by decide +kernel
set_option maxRecDepth 20000 in
theorem dX7_byRounds_35 : decode cX7_byRounds 35 = .ok (.iaload, 1) := by decide +kernel
set_option maxRecDepth 20000 in
theorem dX7_byRounds_36 : decode cX7_byRounds 36 = .ok (.aload_n 0, 1) := by decide +kernel
set_option maxRecDepth 20000 in
theorem dX7_byRounds_37 : decode cX7_byRounds 37 = .ok (.getfield 42, 3) := by decide +kernel
set_option maxRecDepth 20000 in
theorem dX7_byRounds_40 : decode cX7_byRounds 40 = .ok (.iload 4, 2) := by decide +kernel
set_option maxRecDepth 20000 in
theorem dX7_byRounds_42 : decode cX7_byRounds 42 = .ok (.iconst 1, 1) := by decide +kernel
set_option maxRecDepth 20000 in
theorem dX7_byRounds_43 : decode cX7_byRounds 43 = .ok (.isub, 1) := by decide +kernel
set_option maxRecDepth 20000 in
theorem dX7_byRounds_44 : decode cX7_byRounds 44 = .ok (.iaload, 1) := by decide +kernel
set_option maxRecDepth 20000 in
theorem dX7_byRounds_45 : decode cX7_byRounds 45 = .ok (.if_icmp .ne 9, 3) := by decide +kernel
set_option maxRecDepth 20000 in
theorem dX7_byRounds_48 : decode cX7_byRounds 48 = .ok (.iload_n 3, 1) := by decide +kernel
set_option maxRecDepth 20000 in
theorem dX7_byRounds_49 : decode cX7_byRounds 49 = .ok (.iconst 1, 1) := by decide +kernel
set_option maxRecDepth 20000 in
theorem dX7_byRounds_50 : decode cX7_byRounds 50 = .ok (.iadd, 1) := by decide +kernel
set_option maxRecDepth 20000 in
theorem dX7_byRounds_51 : decode cX7_byRounds 51 = .ok (.goto 4, 3) := by decide +kernel
set_option maxRecDepth 20000 in
theorem dX7_byRounds_54 : decode cX7_byRounds 54 = .ok (.iconst 1, 1) := by decide +kernel
set_option maxRecDepth 20000 in
theorem dX7_byRounds_55 : decode cX7_byRounds 55 = .ok (.istore_n 3, 1) := by decide +kernel
set_option maxRecDepth 20000 in
theorem dX7_byRounds_56 : decode cX7_byRounds 56 = .ok (.lload_n 1, 1) := by decide +kernel
set_option maxRecDepth 20000 in
theorem dX7_byRounds_57 : decode cX7_byRounds 57 = .ok (.aload_n 0, 1) := by decide +kernel
set_option maxRecDepth 20000 in
theorem dX7_byRounds_58 : decode cX7_byRounds 58 = .ok (.getfield 42, 3) := by decide +kernel
set_option maxRecDepth 20000 in
theorem dX7_byRounds_61 : decode cX7_byRounds 61 = .ok (.iload 4, 2) := by decide +kernel
set_option maxRecDepth 20000 in
theorem dX7_byRounds_63 : decode cX7_byRounds 63 = .ok (.iaload, 1) := by decide +kernel
set_option maxRecDepth 20000 in
theorem dX7_byRounds_64 : decode cX7_byRounds 64 = .ok (.i2l, 1) := by decide +kernel
set_option maxRecDepth 20000 in
theorem dX7_byRounds_65 : decode cX7_byRounds 65 = .ok (.ldiv, 1) := by decide +kernel
set_option maxRecDepth 20000 in
theorem dX7_byRounds_66 : decode cX7_byRounds 66 = .ok (.iload_n 3, 1) := by decide +kernel
set_option maxRecDepth 20000 in
theorem dX7_byRounds_67 : decode cX7_byRounds 67 = .ok (.i2l, 1) := by decide +kernel
set_option maxRecDepth 20000 in
theorem dX7_byRounds_68 : decode cX7_byRounds 68 = .ok (.ldiv, 1) := by decide +kernel
set_option maxRecDepth 20000 in
theorem dX7_byRounds_69 : decode cX7_byRounds 69 = .ok (.lstore_n 1, 1) := by decide +kernel
set_option maxRecDepth 20000 in
theorem dX7_byRounds_70 : decode cX7_byRounds 70 = .ok (.iinc 4 1, 3) := by decide +kernel
set_option maxRecDepth 20000 in
theorem dX7_byRounds_73 : decode cX7_byRounds 73 = .ok (.goto (-58), 3) := by decide +kernel
set_option maxRecDepth 20000 in
theorem dX7_byRounds_76 : decode cX7_byRounds 76 = .ok (.lload_n 1, 1) := by decide +kernel
set_option maxRecDepth 20000 in
theorem dX7_byRounds_77 : decode cX7_byRounds 77 = .ok (.lreturn, 1) := by decide +kernel
set_option maxRecDepth 20000 in
theorem dX7_byFillings_0 : decode cX7_byFillings 0 = .ok (.lconst 1, 1) := by decide +kernel
set_option maxRecDepth 20000 in
theorem dX7_byFillings_1 : decode cX7_byFillings 1 = .ok (.lstore_n 1, 1) := by decide +kernel
set_option maxRecDepth 20000 in
theorem dX7_byFillings_2 : decode cX7_byFillings 2 = .ok (.iconst 0, 1) := by decide +kernel
set_option maxRecDepth 20000 in
theorem dX7_byFillings_3 : decode cX7_byFillings 3 = .ok (.istore_n 3, 1) := by decide +kernel
set_option maxRecDepth 20000 in
theorem dX7_byFillings_4 : decode cX7_byFillings 4 = .ok (.iload_n 3, 1) := by decide +kernel
set_option maxRecDepth 20000 in
theorem dX7_byFillings_5 : decode cX7_byFillings 5 = .ok (.aload_n 0, 1) := by decide +kernel
set_option maxRecDepth 20000 in
theorem dX7_byFillings_6 : decode cX7_byFillings 6 = .ok (.getfield 95, 3) := by decide +kernel
set_option maxRecDepth 20000 in
theorem dX7_byFillings_9 : decode cX7_byFillings 9 = .ok (.if_icmp .ge 90, 3) := by decide +kernel
set_option maxRecDepth 20000 in
theorem dX7_byFillings_12 : decode cX7_byFillings 12 = .ok (.iconst 0, 1) := by decide +kernel
set_option maxRecDepth 20000 in
theorem dX7_byFillings_13 : decode cX7_byFillings 13 = .ok (.istore 4, 2) := by decide +kernel
set_option maxRecDepth 20000 in
theorem dX7_byFillings_15 : decode cX7_byFillings 15 = .ok (.iload 4, 2) := by decide +kernel
set_option maxRecDepth 20000 in
theorem dX7_byFillings_17 : decode cX7_byFillings 17 = .ok (.aload_n 0, 1) := by decide +kernel
set_option maxRecDepth 20000 in
theorem dX7_byFillings_18 : decode cX7_byFillings 18 = .ok (.getfield 42, 3) := by decide +kernel
set_option maxRecDepth 20000 in
theorem dX7_byFillings_21 : decode cX7_byFillings 21 = .ok (.iload_n 3, 1) := by decide +kernel
set_option maxRecDepth 20000 in
theorem dX7_byFillings_22 : decode cX7_byFillings 22 = .ok (.iaload, 1) := by decide +kernel
set_option maxRecDepth 20000 in
theorem dX7_byFillings_23 : decode cX7_byFillings 23 = .ok (.if_icmp .ge 70, 3) := by decide +kernel
set_option maxRecDepth 20000 in
theorem dX7_byFillings_26 : decode cX7_byFillings 26 = .ok (.iconst 0, 1) := by decide +kernel
set_option maxRecDepth 20000 in
theorem dX7_byFillings_27 : decode cX7_byFillings 27 = .ok (.istore 5, 2) := by decide +kernel
set_option maxRecDepth 20000 in
theorem dX7_byFillings_29 : decode cX7_byFillings 29 = .ok (.iload_n 3, 1) := by decide +kernel
set_option maxRecDepth 20000 in
theorem dX7_byFillings_30 : decode cX7_byFillings 30 = .ok (.iconst 1, 1) := by decide +kernel
set_option maxRecDepth 20000 in
theorem dX7_byFillings_31 : decode cX7_byFillings 31 = .ok (.iadd, 1) := by decide +kernel
set_option maxRecDepth 20000 in
theorem dX7_byFillings_32 : decode cX7_byFillings 32 = .ok (.istore 6, 2) := by decide +kernel
set_option maxRecDepth 20000 in
theorem dX7_byFillings_34 : decode cX7_byFillings 34 = .ok (.iload 6, 2) := by decide +kernel
set_option maxRecDepth 20000 in
theorem dX7_byFillings_36 : decode cX7_byFillings 36 = .ok (.aload_n 0, 1) := by decide +kernel
set_option maxRecDepth 20000 in
theorem dX7_byFillings_37 : decode cX7_byFillings 37 = .ok (.getfield 95, 3) := by decide +kernel
set_option maxRecDepth 20000 in
theorem dX7_byFillings_40 : decode cX7_byFillings 40 = .ok (.if_icmp .ge 31, 3) := by decide +kernel
set_option maxRecDepth 20000 in
theorem dX7_byFillings_43 : decode cX7_byFillings 43 = .ok (.iload 5, 2) := by decide +kernel
set_option maxRecDepth 20000 in
theorem dX7_byFillings_45 : decode cX7_byFillings 45 = .ok (.aload_n 0, 1) := by decide +kernel
set_option maxRecDepth 20000 in
theorem dX7_byFillings_46 : decode cX7_byFillings 46 = .ok (.getfield 42, 3) := by decide +kernel
set_option maxRecDepth 20000 in
theorem dX7_byFillings_49 : decode cX7_byFillings 49 = .ok (.iload 6, 2) := by decide +kernel
set_option maxRecDepth 20000 in
theorem dX7_byFillings_51 : decode cX7_byFillings 51 = .ok (.iaload, 1) := by decide +kernel
set_option maxRecDepth 20000 in
theorem dX7_byFillings_52 : decode cX7_byFillings 52 = .ok (.iload 4, 2) := by decide +kernel
set_option maxRecDepth 20000 in
theorem dX7_byFillings_54 : decode cX7_byFillings 54 = .ok (.if_icmp .le 7, 3) := by decide +kernel
set_option maxRecDepth 20000 in
theorem dX7_byFillings_57 : decode cX7_byFillings 57 = .ok (.iconst 1, 1) := by decide +kernel
set_option maxRecDepth 20000 in
theorem dX7_byFillings_58 : decode cX7_byFillings 58 = .ok (.goto 4, 3) := by decide +kernel
set_option maxRecDepth 20000 in
theorem dX7_byFillings_61 : decode cX7_byFillings 61 = .ok (.iconst 0, 1) := by decide +kernel
set_option maxRecDepth 20000 in
theorem dX7_byFillings_62 : decode cX7_byFillings 62 = .ok (.iadd, 1) := by decide +kernel
set_option maxRecDepth 20000 in
theorem dX7_byFillings_63 : decode cX7_byFillings 63 = .ok (.istore 5, 2) := by decide +kernel
set_option maxRecDepth 20000 in
theorem dX7_byFillings_65 : decode cX7_byFillings 65 = .ok (.iinc 6 1, 3) := by decide +kernel
set_option maxRecDepth 20000 in
theorem dX7_byFillings_68 : decode cX7_byFillings 68 = .ok (.goto (-34), 3) := by decide +kernel
set_option maxRecDepth 20000 in
theorem dX7_byFillings_71 : decode cX7_byFillings 71 = .ok (.lload_n 1, 1) := by decide +kernel
set_option maxRecDepth 20000 in
theorem dX7_byFillings_72 : decode cX7_byFillings 72 = .ok (.aload_n 0, 1) := by decide +kernel
set_option maxRecDepth 20000 in
theorem dX7_byFillings_73 : decode cX7_byFillings 73 = .ok (.getfield 42, 3) := by decide +kernel
set_option maxRecDepth 20000 in
theorem dX7_byFillings_76 : decode cX7_byFillings 76 = .ok (.iload_n 3, 1) := by decide +kernel
set_option maxRecDepth 20000 in
theorem dX7_byFillings_77 : decode cX7_byFillings 77 = .ok (.iaload, 1) := by decide +kernel
set_option maxRecDepth 20000 in
theorem dX7_byFillings_78 : decode cX7_byFillings 78 = .ok (.iload 4, 2) := by decide +kernel
set_option maxRecDepth 20000 in
theorem dX7_byFillings_80 : decode cX7_byFillings 80 = .ok (.isub, 1) := by decide +kernel
set_option maxRecDepth 20000 in
theorem dX7_byFillings_81 : decode cX7_byFillings 81 = .ok (.iload 5, 2) := by decide +kernel
set_option maxRecDepth 20000 in
theorem dX7_byFillings_83 : decode cX7_byFillings 83 = .ok (.iadd, 1) := by decide +kernel
set_option maxRecDepth 20000 in
theorem dX7_byFillings_84 : decode cX7_byFillings 84 = .ok (.i2l, 1) := by decide +kernel
set_option maxRecDepth 20000 in
theorem dX7_byFillings_85 : decode cX7_byFillings 85 = .ok (.lmul, 1) := by decide +kernel
set_option maxRecDepth 20000 in
theorem dX7_byFillings_86 : decode cX7_byFillings 86 = .ok (.lstore_n 1, 1) := by decide +kernel
set_option maxRecDepth 20000 in
theorem dX7_byFillings_87 : decode cX7_byFillings 87 = .ok (.iinc 4 1, 3) := by decide +kernel
set_option maxRecDepth 20000 in
theorem dX7_byFillings_90 : decode cX7_byFillings 90 = .ok (.goto (-75), 3) := by decide +kernel
set_option maxRecDepth 20000 in
theorem dX7_byFillings_93 : decode cX7_byFillings 93 = .ok (.iinc 3 1, 3) := by decide +kernel
set_option maxRecDepth 20000 in
theorem dX7_byFillings_96 : decode cX7_byFillings 96 = .ok (.goto (-92), 3) := by decide +kernel
set_option maxRecDepth 20000 in
theorem dX7_byFillings_99 : decode cX7_byFillings 99 = .ok (.aload_n 0, 1) := by decide +kernel
set_option maxRecDepth 20000 in
theorem dX7_byFillings_100 : decode cX7_byFillings 100 = .ok (.getfield 39, 3) := by decide +kernel
set_option maxRecDepth 20000 in
theorem dX7_byFillings_103 : decode cX7_byFillings 103 = .ok (.aload_n 0, 1) := by decide +kernel
set_option maxRecDepth 20000 in
theorem dX7_byFillings_104 : decode cX7_byFillings 104 = .ok (.getfield 7, 3) := by decide +kernel
set_option maxRecDepth 20000 in
theorem dX7_byFillings_107 : decode cX7_byFillings 107 = .ok (.laload, 1) := by decide +kernel
set_option maxRecDepth 20000 in
theorem dX7_byFillings_108 : decode cX7_byFillings 108 = .ok (.lload_n 1, 1) := by decide +kernel
set_option maxRecDepth 20000 in
theorem dX7_byFillings_109 : decode cX7_byFillings 109 = .ok (.ldiv, 1) := by decide +kernel
set_option maxRecDepth 20000 in
theorem dX7_byFillings_110 : decode cX7_byFillings 110 = .ok (.lstore_n 3, 1) := by decide +kernel
set_option maxRecDepth 20000 in
theorem dX7_byFillings_111 : decode cX7_byFillings 111 = .ok (.lload_n 3, 1) := by decide +kernel
set_option maxRecDepth 20000 in
theorem dX7_byFillings_112 : decode cX7_byFillings 112 = .ok (.lload_n 3, 1) := by decide +kernel
set_option maxRecDepth 20000 in
theorem dX7_byFillings_113 : decode cX7_byFillings 113 = .ok (.lmul, 1) := by decide +kernel
set_option maxRecDepth 20000 in
theorem dX7_byFillings_114 : decode cX7_byFillings 114 = .ok (.lreturn, 1) := by decide +kernel
set_option maxRecDepth 20000 in
theorem dX7_shapeNumber_0 : decode cX7_shapeNumber 0 = .ok (.iconst 0, 1) := by decide +kernel
set_option maxRecDepth 20000 in
theorem dX7_shapeNumber_1 : decode cX7_shapeNumber 1 = .ok (.istore_n 2, 1) := by decide +kernel
set_option maxRecDepth 20000 in
theorem dX7_shapeNumber_2 : decode cX7_shapeNumber 2 = .ok (.lconst 1, 1) := by decide +kernel
set_option maxRecDepth 20000 in
theorem dX7_shapeNumber_3 : decode cX7_shapeNumber 3 = .ok (.lstore_n 3, 1) := by decide +kernel
set_option maxRecDepth 20000 in
theorem dX7_shapeNumber_4 : decode cX7_shapeNumber 4 = .ok (.iconst 0, 1) := by decide +kernel
set_option maxRecDepth 20000 in
theorem dX7_shapeNumber_5 : decode cX7_shapeNumber 5 = .ok (.istore 5, 2) := by decide +kernel
set_option maxRecDepth 20000 in
theorem dX7_shapeNumber_7 : decode cX7_shapeNumber 7 = .ok (.iload 5, 2) := by decide +kernel
set_option maxRecDepth 20000 in
theorem dX7_shapeNumber_9 : decode cX7_shapeNumber 9 = .ok (.aload_n 0, 1) := by decide +kernel
set_option maxRecDepth 20000 in
theorem dX7_shapeNumber_10 : decode cX7_shapeNumber 10 = .ok (.getfield 95, 3) := by decide +kernel
set_option maxRecDepth 20000 in
theorem dX7_shapeNumber_13 : decode cX7_shapeNumber 13 = .ok (.if_icmp .ge 52, 3) := by decide +kernel
set_option maxRecDepth 20000 in
theorem dX7_shapeNumber_16 : decode cX7_shapeNumber 16 = .ok (.iload_n 2, 1) := by decide +kernel
set_option maxRecDepth 20000 in
theorem dX7_shapeNumber_17 : decode cX7_shapeNumber 17 = .ok (.aload_n 0, 1) := by decide +kernel
set_option maxRecDepth 20000 in
theorem dX7_shapeNumber_18 : decode cX7_shapeNumber 18 = .ok (.getfield 42, 3) := by decide +kernel
set_option maxRecDepth 20000 in
theorem dX7_shapeNumber_21 : decode cX7_shapeNumber 21 = .ok (.iload 5, 2) := by decide +kernel
set_option maxRecDepth 20000 in
theorem dX7_shapeNumber_23 : decode cX7_shapeNumber 23 = .ok (.iaload, 1) := by decide +kernel
set_option maxRecDepth 20000 in
theorem dX7_shapeNumber_24 : decode cX7_shapeNumber 24 = .ok (.iconst 1, 1) := by decide +kernel
set_option maxRecDepth 20000 in
theorem dX7_shapeNumber_25 : decode cX7_shapeNumber 25 = .ok (.if_icmp .ne 7, 3) := by decide +kernel
set_option maxRecDepth 20000 in
theorem dX7_shapeNumber_28 : decode cX7_shapeNumber 28 = .ok (.iconst 1, 1) := by decide +kernel
set_option maxRecDepth 20000 in
theorem dX7_shapeNumber_29 : decode cX7_shapeNumber 29 = .ok (.goto 4, 3) := by decide +kernel
set_option maxRecDepth 20000 in
theorem dX7_shapeNumber_32 : decode cX7_shapeNumber 32 = .ok (.iconst 0, 1) := by decide +kernel
set_option maxRecDepth 20000 in
theorem dX7_shapeNumber_33 : decode cX7_shapeNumber 33 = .ok (.iadd, 1) := by decide +kernel
set_option maxRecDepth 20000 in
theorem dX7_shapeNumber_34 : decode cX7_shapeNumber 34 = .ok (.istore_n 2, 1) := by decide +kernel
set_option maxRecDepth 20000 in
theorem dX7_shapeNumber_35 : decode cX7_shapeNumber 35 = .ok (.lload_n 3, 1) := by decide +kernel
set_option maxRecDepth 20000 in
theorem dX7_shapeNumber_36 : decode cX7_shapeNumber 36 = .ok (.lload_n 3, 1) := by decide +kernel
set_option maxRecDepth 20000 in
theorem dX7_shapeNumber_37 : decode cX7_shapeNumber 37 = .ok (.aload_n 0, 1) := by decide +kernel
set_option maxRecDepth 20000 in
theorem dX7_shapeNumber_38 : decode cX7_shapeNumber 38 = .ok (.getfield 42, 3) := by decide +kernel
set_option maxRecDepth 20000 in
theorem dX7_shapeNumber_41 : decode cX7_shapeNumber 41 = .ok (.iload 5, 2) := by decide +kernel
set_option maxRecDepth 20000 in
theorem dX7_shapeNumber_43 : decode cX7_shapeNumber 43 = .ok (.iaload, 1) := by decide +kernel
set_option maxRecDepth 20000 in
theorem dX7_shapeNumber_44 : decode cX7_shapeNumber 44 = .ok (.i2l, 1) := by decide +kernel
set_option maxRecDepth 20000 in
theorem dX7_shapeNumber_45 : decode cX7_shapeNumber 45 = .ok (.invokestatic 70, 3) := by decide +kernel
set_option maxRecDepth 20000 in
theorem dX7_shapeNumber_48 : decode cX7_shapeNumber 48 = .ok (.ldiv, 1) := by decide +kernel
set_option maxRecDepth 20000 in
theorem dX7_shapeNumber_49 : decode cX7_shapeNumber 49 = .ok (.aload_n 0, 1) := by decide +kernel
set_option maxRecDepth 20000 in
theorem dX7_shapeNumber_50 : decode cX7_shapeNumber 50 = .ok (.getfield 42, 3) := by decide +kernel
set_option maxRecDepth 20000 in
theorem dX7_shapeNumber_53 : decode cX7_shapeNumber 53 = .ok (.iload 5, 2) := by decide +kernel
set_option maxRecDepth 20000 in
theorem dX7_shapeNumber_55 : decode cX7_shapeNumber 55 = .ok (.iaload, 1) := by decide +kernel
set_option maxRecDepth 20000 in
theorem dX7_shapeNumber_56 : decode cX7_shapeNumber 56 = .ok (.i2l, 1) := by decide +kernel
set_option maxRecDepth 20000 in
theorem dX7_shapeNumber_57 : decode cX7_shapeNumber 57 = .ok (.lmul, 1) := by decide +kernel
set_option maxRecDepth 20000 in
theorem dX7_shapeNumber_58 : decode cX7_shapeNumber 58 = .ok (.lstore_n 3, 1) := by decide +kernel
set_option maxRecDepth 20000 in
theorem dX7_shapeNumber_59 : decode cX7_shapeNumber 59 = .ok (.iinc 5 1, 3) := by decide +kernel
set_option maxRecDepth 20000 in
theorem dX7_shapeNumber_62 : decode cX7_shapeNumber 62 = .ok (.goto (-55), 3) := by decide +kernel
set_option maxRecDepth 20000 in
theorem dX7_shapeNumber_65 : decode cX7_shapeNumber 65 = .ok (.iload_n 1, 1) := by decide +kernel
set_option maxRecDepth 20000 in
theorem dX7_shapeNumber_66 : decode cX7_shapeNumber 66 = .ok (.iconst 3, 1) := by decide +kernel
set_option maxRecDepth 20000 in
theorem dX7_shapeNumber_67 : decode cX7_shapeNumber 67 = .ok (.if_icmp .ne 7, 3) := by decide +kernel
set_option maxRecDepth 20000 in
theorem dX7_shapeNumber_70 : decode cX7_shapeNumber 70 = .ok (.iload_n 2, 1) := by decide +kernel
set_option maxRecDepth 20000 in
theorem dX7_shapeNumber_71 : decode cX7_shapeNumber 71 = .ok (.goto 20, 3) := by decide +kernel
set_option maxRecDepth 20000 in
theorem dX7_shapeNumber_74 : decode cX7_shapeNumber 74 = .ok (.iload_n 1, 1) := by decide +kernel
set_option maxRecDepth 20000 in
theorem dX7_shapeNumber_75 : decode cX7_shapeNumber 75 = .ok (.bipush 7, 2) := by decide +kernel
set_option maxRecDepth 20000 in
theorem dX7_shapeNumber_77 : decode cX7_shapeNumber 77 = .ok (.if_icmp .ne 8, 3) := by decide +kernel
set_option maxRecDepth 20000 in
theorem dX7_shapeNumber_80 : decode cX7_shapeNumber 80 = .ok (.lload_n 3, 1) := by decide +kernel
set_option maxRecDepth 20000 in
theorem dX7_shapeNumber_81 : decode cX7_shapeNumber 81 = .ok (.l2i, 1) := by decide +kernel
set_option maxRecDepth 20000 in
theorem dX7_shapeNumber_82 : decode cX7_shapeNumber 82 = .ok (.goto 9, 3) := by decide +kernel
set_option maxRecDepth 20000 in
theorem dX7_shapeNumber_85 : decode cX7_shapeNumber 85 = .ok (.aload_n 0, 1) := by decide +kernel
set_option maxRecDepth 20000 in
theorem dX7_shapeNumber_86 : decode cX7_shapeNumber 86 = .ok (.getfield 42, 3) := by decide +kernel
set_option maxRecDepth 20000 in
theorem dX7_shapeNumber_89 : decode cX7_shapeNumber 89 = .ok (.iconst 0, 1) := by decide +kernel
set_option maxRecDepth 20000 in
theorem dX7_shapeNumber_90 : decode cX7_shapeNumber 90 = .ok (.iaload, 1) := by decide +kernel
set_option maxRecDepth 20000 in
theorem dX7_shapeNumber_91 : decode cX7_shapeNumber 91 = .ok (.ireturn, 1) := by decide +kernel
set_option maxRecDepth 20000 in
theorem dX7_countByShapes_0 : decode cX7_countByShapes 0 = .ok (.iconst 0, 1) := by decide +kernel
set_option maxRecDepth 20000 in
theorem dX7_countByShapes_1 : decode cX7_countByShapes 1 = .ok (.istore_n 2, 1) := by decide +kernel
set_option maxRecDepth 20000 in
theorem dX7_countByShapes_2 : decode cX7_countByShapes 2 = .ok (.iload_n 2, 1) := by decide +kernel
set_option maxRecDepth 20000 in
theorem dX7_countByShapes_3 : decode cX7_countByShapes 3 = .ok (.sipush 210, 3) := by decide +kernel
set_option maxRecDepth 20000 in
theorem dX7_countByShapes_6 : decode cX7_countByShapes 6 = .ok (.if_icmp .gt 16, 3) := by decide +kernel
set_option maxRecDepth 20000 in
theorem dX7_countByShapes_9 : decode cX7_countByShapes 9 = .ok (.aload_n 0, 1) := by decide +kernel
set_option maxRecDepth 20000 in
theorem dX7_countByShapes_10 : decode cX7_countByShapes 10 = .ok (.getfield 32, 3) := by decide +kernel
set_option maxRecDepth 20000 in
theorem dX7_countByShapes_13 : decode cX7_countByShapes 13 = .ok (.iload_n 2, 1) := by decide +kernel
set_option maxRecDepth 20000 in
theorem dX7_countByShapes_14 : decode cX7_countByShapes 14 = .ok (.lconst 0, 1) := by decide +kernel
set_option maxRecDepth 20000 in
theorem dX7_countByShapes_15 : decode cX7_countByShapes 15 = .ok (.lastore, 1) := by decide +kernel
set_option maxRecDepth 20000 in
theorem dX7_countByShapes_16 : decode cX7_countByShapes 16 = .ok (.iinc 2 1, 3) := by decide +kernel
set_option maxRecDepth 20000 in
theorem dX7_countByShapes_19 : decode cX7_countByShapes 19 = .ok (.goto (-17), 3) := by decide +kernel
set_option maxRecDepth 20000 in
theorem dX7_countByShapes_22 : decode cX7_countByShapes 22 = .ok (.aload_n 0, 1) := by decide +kernel
set_option maxRecDepth 20000 in
theorem dX7_countByShapes_23 : decode cX7_countByShapes 23 = .ok (.getfield 42, 3) := by decide +kernel
set_option maxRecDepth 20000 in
theorem dX7_countByShapes_26 : decode cX7_countByShapes 26 = .ok (.iconst 0, 1) := by decide +kernel
set_option maxRecDepth 20000 in
theorem dX7_countByShapes_27 : decode cX7_countByShapes 27 = .ok (.aload_n 0, 1) := by decide +kernel
set_option maxRecDepth 20000 in
theorem dX7_countByShapes_28 : decode cX7_countByShapes 28 = .ok (.getfield 7, 3) := by decide +kernel
set_option maxRecDepth 20000 in
theorem dX7_countByShapes_31 : decode cX7_countByShapes 31 = .ok (.iastore, 1) := by decide +kernel
set_option maxRecDepth 20000 in
theorem dX7_countByShapes_32 : decode cX7_countByShapes 32 = .ok (.aload_n 0, 1) := by decide +kernel
set_option maxRecDepth 20000 in
theorem dX7_countByShapes_33 : decode cX7_countByShapes 33 = .ok (.iconst 1, 1) := by decide +kernel
set_option maxRecDepth 20000 in
theorem dX7_countByShapes_34 : decode cX7_countByShapes 34 = .ok (.putfield 95, 3) := by decide +kernel
set_option maxRecDepth 20000 in
theorem dX7_countByShapes_37 : decode cX7_countByShapes 37 = .ok (.iconst 1, 1) := by decide +kernel
set_option maxRecDepth 20000 in
theorem dX7_countByShapes_38 : decode cX7_countByShapes 38 = .ok (.istore_n 2, 1) := by decide +kernel
set_option maxRecDepth 20000 in
theorem dX7_countByShapes_39 : decode cX7_countByShapes 39 = .ok (.iload_n 2, 1) := by decide +kernel
set_option maxRecDepth 20000 in
theorem dX7_countByShapes_40 : decode cX7_countByShapes 40 = .ok (.ifCond .eq 41, 3) := by decide +kernel
set_option maxRecDepth 20000 in
theorem dX7_countByShapes_43 : decode cX7_countByShapes 43 = .ok (.aload_n 0, 1) := by decide +kernel
set_option maxRecDepth 20000 in
theorem dX7_countByShapes_44 : decode cX7_countByShapes 44 = .ok (.getfield 32, 3) := by decide +kernel
set_option maxRecDepth 20000 in
theorem dX7_countByShapes_47 : decode cX7_countByShapes 47 = .ok (.aload_n 0, 1) := by decide +kernel
set_option maxRecDepth 20000 in
theorem dX7_countByShapes_48 : decode cX7_countByShapes 48 = .ok (.iload_n 1, 1) := by decide +kernel
set_option maxRecDepth 20000 in
theorem dX7_countByShapes_49 : decode cX7_countByShapes 49 = .ok (.invokevirtual 98, 3) := by decide +kernel
set_option maxRecDepth 20000 in
theorem dX7_countByShapes_52 : decode cX7_countByShapes 52 = .ok (.dup2, 1) := by decide +kernel
set_option maxRecDepth 20000 in
theorem dX7_countByShapes_53 : decode cX7_countByShapes 53 = .ok (.laload, 1) := by decide +kernel
set_option maxRecDepth 20000 in
theorem dX7_countByShapes_54 : decode cX7_countByShapes 54 = .ok (.iload_n 1, 1) := by decide +kernel
set_option maxRecDepth 20000 in
theorem dX7_countByShapes_55 : decode cX7_countByShapes 55 = .ok (.bipush 6, 2) := by decide +kernel
set_option maxRecDepth 20000 in
theorem dX7_countByShapes_57 : decode cX7_countByShapes 57 = .ok (.if_icmp .ne 10, 3) := by decide +kernel
set_option maxRecDepth 20000 in
theorem dX7_countByShapes_60 : decode cX7_countByShapes 60 = .ok (.aload_n 0, 1) := by decide +kernel
set_option maxRecDepth 20000 in
theorem dX7_countByShapes_61 : decode cX7_countByShapes 61 = .ok (.invokevirtual 101, 3) := by decide +kernel
set_option maxRecDepth 20000 in
theorem dX7_countByShapes_64 : decode cX7_countByShapes 64 = .ok (.goto 7, 3) := by decide +kernel
set_option maxRecDepth 20000 in
theorem dX7_countByShapes_67 : decode cX7_countByShapes 67 = .ok (.aload_n 0, 1) := by decide +kernel
set_option maxRecDepth 20000 in
theorem dX7_countByShapes_68 : decode cX7_countByShapes 68 = .ok (.invokevirtual 105, 3) := by decide +kernel
set_option maxRecDepth 20000 in
theorem dX7_countByShapes_71 : decode cX7_countByShapes 71 = .ok (.ladd, 1) := by decide +kernel
set_option maxRecDepth 20000 in
theorem dX7_countByShapes_72 : decode cX7_countByShapes 72 = .ok (.lastore, 1) := by decide +kernel
set_option maxRecDepth 20000 in
theorem dX7_countByShapes_73 : decode cX7_countByShapes 73 = .ok (.aload_n 0, 1) := by decide +kernel
set_option maxRecDepth 20000 in
theorem dX7_countByShapes_74 : decode cX7_countByShapes 74 = .ok (.invokevirtual 108, 3) := by decide +kernel
set_option maxRecDepth 20000 in
theorem dX7_countByShapes_77 : decode cX7_countByShapes 77 = .ok (.istore_n 2, 1) := by decide +kernel
set_option maxRecDepth 20000 in
theorem dX7_countByShapes_78 : decode cX7_countByShapes 78 = .ok (.goto (-39), 3) := by decide +kernel
set_option maxRecDepth 20000 in
theorem dX7_countByShapes_81 : decode cX7_countByShapes 81 = .ok (.return_, 1) := by decide +kernel
set_option maxRecDepth 20000 in
theorem dX7_findCounts_0 : decode cX7_findCounts 0 = .ok (.aload_n 0, 1) := by decide +kernel
set_option maxRecDepth 20000 in
theorem dX7_findCounts_1 : decode cX7_findCounts 1 = .ok (.invokevirtual 112, 3) := by decide +kernel
set_option maxRecDepth 20000 in
theorem dX7_findCounts_4 : decode cX7_findCounts 4 = .ok (.iload_n 1, 1) := by decide +kernel
set_option maxRecDepth 20000 in
theorem dX7_findCounts_5 : decode cX7_findCounts 5 = .ok (.iconst 3, 1) := by decide +kernel
set_option maxRecDepth 20000 in
theorem dX7_findCounts_6 : decode cX7_findCounts 6 = .ok (.if_icmp .lt 8, 3) := by decide +kernel
set_option maxRecDepth 20000 in
theorem dX7_findCounts_9 : decode cX7_findCounts 9 = .ok (.iload_n 1, 1) := by decide +kernel
set_option maxRecDepth 20000 in
theorem dX7_findCounts_10 : decode cX7_findCounts 10 = .ok (.iconst 5, 1) := by decide +kernel
set_option maxRecDepth 20000 in
theorem dX7_findCounts_11 : decode cX7_findCounts 11 = .ok (.if_icmp .ne 11, 3) := by decide +kernel
set_option maxRecDepth 20000 in
theorem dX7_findCounts_14 : decode cX7_findCounts 14 = .ok (.aload_n 0, 1) := by decide +kernel
set_option maxRecDepth 20000 in
theorem dX7_findCounts_15 : decode cX7_findCounts 15 = .ok (.iload_n 1, 1) := by decide +kernel
set_option maxRecDepth 20000 in
theorem dX7_findCounts_16 : decode cX7_findCounts 16 = .ok (.invokevirtual 115, 3) := by decide +kernel
set_option maxRecDepth 20000 in
theorem dX7_findCounts_19 : decode cX7_findCounts 19 = .ok (.goto 8, 3) := by decide +kernel
set_option maxRecDepth 20000 in
theorem dX7_findCounts_22 : decode cX7_findCounts 22 = .ok (.aload_n 0, 1) := by decide +kernel
set_option maxRecDepth 20000 in
theorem dX7_findCounts_23 : decode cX7_findCounts 23 = .ok (.iload_n 1, 1) := by decide +kernel
set_option maxRecDepth 20000 in
theorem dX7_findCounts_24 : decode cX7_findCounts 24 = .ok (.invokevirtual 119, 3) := by decide +kernel
set_option maxRecDepth 20000 in
theorem dX7_findCounts_27 : decode cX7_findCounts 27 = .ok (.return_, 1) := by decide +kernel
set_option maxRecDepth 20000 in
theorem dX7_many_0 : decode cX7_many 0 = .ok (.iload_n 1, 1) := by decide +kernel
set_option maxRecDepth 20000 in
theorem dX7_many_1 : decode cX7_many 1 = .ok (.i2l, 1) := by decide +kernel
set_option maxRecDepth 20000 in
theorem dX7_many_2 : decode cX7_many 2 = .ok (.lconst 0, 1) := by decide +kernel
set_option maxRecDepth 20000 in
theorem dX7_many_3 : decode cX7_many 3 = .ok (.ldc2_w 87, 3) := by decide +kernel
set_option maxRecDepth 20000 in
theorem dX7_many_6 : decode cX7_many 6 = .ok (.invokestatic 51, 3) := by decide +kernel
set_option maxRecDepth 20000 in
theorem dX7_many_9 : decode cX7_many 9 = .ok (.ifCond .ne 7, 3) := by decide +kernel
set_option maxRecDepth 20000 in
theorem dX7_many_12 : decode cX7_many 12 = .ok (.ldc2_w 122, 3) := by decide +kernel
set_option maxRecDepth 20000 in
theorem dX7_many_15 : decode cX7_many 15 = .ok (.lreturn, 1) := by decide +kernel
set_option maxRecDepth 20000 in
theorem dX7_many_16 : decode cX7_many 16 = .ok (.aload_n 0, 1) := by decide +kernel
set_option maxRecDepth 20000 in
theorem dX7_many_17 : decode cX7_many 17 = .ok (.iload_n 1, 1) := by decide +kernel
set_option maxRecDepth 20000 in
theorem dX7_many_18 : decode cX7_many 18 = .ok (.invokevirtual 124, 3) := by decide +kernel
set_option maxRecDepth 20000 in
theorem dX7_many_21 : decode cX7_many 21 = .ok (.iload_n 2, 1) := by decide +kernel
set_option maxRecDepth 20000 in
theorem dX7_many_22 : decode cX7_many 22 = .ok (.i2l, 1) := by decide +kernel
set_option maxRecDepth 20000 in
theorem dX7_many_23 : decode cX7_many 23 = .ok (.lconst 0, 1) := by decide +kernel
set_option maxRecDepth 20000 in
theorem dX7_many_24 : decode cX7_many 24 = .ok (.ldc2_w 127, 3) := by decide +kernel
set_option maxRecDepth 20000 in
theorem dX7_many_27 : decode cX7_many 27 = .ok (.invokestatic 51, 3) := by decide +kernel
set_option maxRecDepth 20000 in
theorem dX7_many_30 : decode cX7_many 30 = .ok (.ifCond .eq 12, 3) := by decide +kernel
set_option maxRecDepth 20000 in
theorem dX7_many_33 : decode cX7_many 33 = .ok (.aload_n 0, 1) := by decide +kernel
set_option maxRecDepth 20000 in
theorem dX7_many_34 : decode cX7_many 34 = .ok (.getfield 32, 3) := by decide +kernel
set_option maxRecDepth 20000 in
theorem dX7_many_37 : decode cX7_many 37 = .ok (.iload_n 2, 1) := by decide +kernel
set_option maxRecDepth 20000 in
theorem dX7_many_38 : decode cX7_many 38 = .ok (.laload, 1) := by decide +kernel
set_option maxRecDepth 20000 in
theorem dX7_many_39 : decode cX7_many 39 = .ok (.goto 4, 3) := by decide +kernel
set_option maxRecDepth 20000 in
theorem dX7_many_42 : decode cX7_many 42 = .ok (.lconst 0, 1) := by decide +kernel
set_option maxRecDepth 20000 in
theorem dX7_many_43 : decode cX7_many 43 = .ok (.lreturn, 1) := by decide +kernel
set_option maxRecDepth 20000 in
theorem dX7_mean_0 : decode cX7_mean 0 = .ok (.iload_n 1, 1) := by decide +kernel
set_option maxRecDepth 20000 in
theorem dX7_mean_1 : decode cX7_mean 1 = .ok (.i2l, 1) := by decide +kernel
set_option maxRecDepth 20000 in
theorem dX7_mean_2 : decode cX7_mean 2 = .ok (.lconst 0, 1) := by decide +kernel
set_option maxRecDepth 20000 in
theorem dX7_mean_3 : decode cX7_mean 3 = .ok (.ldc2_w 87, 3) := by decide +kernel
set_option maxRecDepth 20000 in
theorem dX7_mean_6 : decode cX7_mean 6 = .ok (.invokestatic 51, 3) := by decide +kernel
set_option maxRecDepth 20000 in
theorem dX7_mean_9 : decode cX7_mean 9 = .ok (.ifCond .eq 13, 3) := by decide +kernel
set_option maxRecDepth 20000 in
theorem dX7_mean_12 : decode cX7_mean 12 = .ok (.iload_n 2, 1) := by decide +kernel
set_option maxRecDepth 20000 in
theorem dX7_mean_13 : decode cX7_mean 13 = .ok (.i2l, 1) := by decide +kernel
set_option maxRecDepth 20000 in
theorem dX7_mean_14 : decode cX7_mean 14 = .ok (.lconst 0, 1) := by decide +kernel
set_option maxRecDepth 20000 in
theorem dX7_mean_15 : decode cX7_mean 15 = .ok (.lconst 1, 1) := by decide +kernel
set_option maxRecDepth 20000 in
theorem dX7_mean_16 : decode cX7_mean 16 = .ok (.invokestatic 51, 3) := by decide +kernel
set_option maxRecDepth 20000 in
theorem dX7_mean_19 : decode cX7_mean 19 = .ok (.ifCond .ne 7, 3) := by decide +kernel
set_option maxRecDepth 20000 in
theorem dX7_mean_22 : decode cX7_mean 22 = .ok (.ldc2_w 122, 3) := by decide +kernel
set_option maxRecDepth 20000 in
theorem dX7_mean_25 : decode cX7_mean 25 = .ok (.lreturn, 1) := by decide +kernel
set_option maxRecDepth 20000 in
theorem dX7_mean_26 : decode cX7_mean 26 = .ok (.aload_n 0, 1) := by decide +kernel
set_option maxRecDepth 20000 in
theorem dX7_mean_27 : decode cX7_mean 27 = .ok (.iload_n 1, 1) := by decide +kernel
set_option maxRecDepth 20000 in
theorem dX7_mean_28 : decode cX7_mean 28 = .ok (.invokevirtual 124, 3) := by decide +kernel
set_option maxRecDepth 20000 in
theorem dX7_mean_31 : decode cX7_mean 31 = .ok (.lconst 0, 1) := by decide +kernel
set_option maxRecDepth 20000 in
theorem dX7_mean_32 : decode cX7_mean 32 = .ok (.lstore_n 3, 1) := by decide +kernel
set_option maxRecDepth 20000 in
theorem dX7_mean_33 : decode cX7_mean 33 = .ok (.iconst 0, 1) := by decide +kernel
set_option maxRecDepth 20000 in
theorem dX7_mean_34 : decode cX7_mean 34 = .ok (.istore 5, 2) := by decide +kernel
set_option maxRecDepth 20000 in
theorem dX7_mean_36 : decode cX7_mean 36 = .ok (.iload 5, 2) := by decide +kernel
set_option maxRecDepth 20000 in
theorem dX7_mean_38 : decode cX7_mean 38 = .ok (.sipush 210, 3) := by decide +kernel
set_option maxRecDepth 20000 in
theorem dX7_mean_41 : decode cX7_mean 41 = .ok (.if_icmp .gt 23, 3) := by decide +kernel
set_option maxRecDepth 20000 in
theorem dX7_mean_44 : decode cX7_mean 44 = .ok (.lload_n 3, 1) := by decide +kernel
set_option maxRecDepth 20000 in
theorem dX7_mean_45 : decode cX7_mean 45 = .ok (.iload 5, 2) := by decide +kernel
set_option maxRecDepth 20000 in
theorem dX7_mean_47 : decode cX7_mean 47 = .ok (.i2l, 1) := by decide +kernel
set_option maxRecDepth 20000 in
theorem dX7_mean_48 : decode cX7_mean 48 = .ok (.aload_n 0, 1) := by decide +kernel
set_option maxRecDepth 20000 in
theorem dX7_mean_49 : decode cX7_mean 49 = .ok (.getfield 32, 3) := by decide +kernel
set_option maxRecDepth 20000 in
theorem dX7_mean_52 : decode cX7_mean 52 = .ok (.iload 5, 2) := by decide +kernel
set_option maxRecDepth 20000 in
theorem dX7_mean_54 : decode cX7_mean 54 = .ok (.laload, 1) := by decide +kernel
set_option maxRecDepth 20000 in
theorem dX7_mean_55 : decode cX7_mean 55 = .ok (.lmul, 1) := by decide +kernel
set_option maxRecDepth 20000 in
theorem dX7_mean_56 : decode cX7_mean 56 = .ok (.ladd, 1) := by decide +kernel
set_option maxRecDepth 20000 in
theorem dX7_mean_57 : decode cX7_mean 57 = .ok (.lstore_n 3, 1) := by decide +kernel
set_option maxRecDepth 20000 in
theorem dX7_mean_58 : decode cX7_mean 58 = .ok (.iinc 5 1, 3) := by decide +kernel
set_option maxRecDepth 20000 in
theorem dX7_mean_61 : decode cX7_mean 61 = .ok (.goto (-25), 3) := by decide +kernel
set_option maxRecDepth 20000 in
theorem dX7_mean_64 : decode cX7_mean 64 = .ok (.lload_n 3, 1) := by decide +kernel
set_option maxRecDepth 20000 in
theorem dX7_mean_65 : decode cX7_mean 65 = .ok (.aload_n 0, 1) := by decide +kernel
set_option maxRecDepth 20000 in
theorem dX7_mean_66 : decode cX7_mean 66 = .ok (.getfield 39, 3) := by decide +kernel
set_option maxRecDepth 20000 in
theorem dX7_mean_69 : decode cX7_mean 69 = .ok (.aload_n 0, 1) := by decide +kernel
set_option maxRecDepth 20000 in
theorem dX7_mean_70 : decode cX7_mean 70 = .ok (.getfield 7, 3) := by decide +kernel
set_option maxRecDepth 20000 in
theorem dX7_mean_73 : decode cX7_mean 73 = .ok (.laload, 1) := by decide +kernel
set_option maxRecDepth 20000 in
theorem dX7_mean_74 : decode cX7_mean 74 = .ok (.invokestatic 70, 3) := by decide +kernel
set_option maxRecDepth 20000 in
theorem dX7_mean_77 : decode cX7_mean 77 = .ok (.lstore 5, 2) := by decide +kernel
set_option maxRecDepth 20000 in
theorem dX7_mean_79 : decode cX7_mean 79 = .ok (.iload_n 2, 1) := by decide +kernel
set_option maxRecDepth 20000 in
theorem dX7_mean_80 : decode cX7_mean 80 = .ok (.ifCond .ne 10, 3) := by decide +kernel
set_option maxRecDepth 20000 in
theorem dX7_mean_83 : decode cX7_mean 83 = .ok (.lload_n 3, 1) := by decide +kernel
set_option maxRecDepth 20000 in
theorem dX7_mean_84 : decode cX7_mean 84 = .ok (.lload 5, 2) := by decide +kernel
set_option maxRecDepth 20000 in
theorem dX7_mean_86 : decode cX7_mean 86 = .ok (.ldiv, 1) := by decide +kernel
set_option maxRecDepth 20000 in
theorem dX7_mean_87 : decode cX7_mean 87 = .ok (.goto 15, 3) := by decide +kernel
set_option maxRecDepth 20000 in
theorem dX7_mean_90 : decode cX7_mean 90 = .ok (.aload_n 0, 1) := by decide +kernel
set_option maxRecDepth 20000 in
theorem dX7_mean_91 : decode cX7_mean 91 = .ok (.getfield 39, 3) := by decide +kernel
set_option maxRecDepth 20000 in
theorem dX7_mean_94 : decode cX7_mean 94 = .ok (.aload_n 0, 1) := by decide +kernel
set_option maxRecDepth 20000 in
theorem dX7_mean_95 : decode cX7_mean 95 = .ok (.getfield 7, 3) := by decide +kernel
set_option maxRecDepth 20000 in
theorem dX7_mean_98 : decode cX7_mean 98 = .ok (.laload, 1) := by decide +kernel
set_option maxRecDepth 20000 in
theorem dX7_mean_99 : decode cX7_mean 99 = .ok (.lload 5, 2) := by decide +kernel
set_option maxRecDepth 20000 in
theorem dX7_mean_101 : decode cX7_mean 101 = .ok (.ldiv, 1) := by decide +kernel
set_option maxRecDepth 20000 in
theorem dX7_mean_102 : decode cX7_mean 102 = .ok (.lreturn, 1) := by decide +kernel
set_option maxRecDepth 20000 in
theorem dX7_wayAt_0 : decode cX7_wayAt 0 = .ok (.bipush 19, 2) := by decide +kernel
set_option maxRecDepth 20000 in
theorem dX7_wayAt_2 : decode cX7_wayAt 2 = .ok (.iload_n 0, 1) := by decide +kernel
set_option maxRecDepth 20000 in
theorem dX7_wayAt_3 : decode cX7_wayAt 3 = .ok (.imul, 1) := by decide +kernel
set_option maxRecDepth 20000 in
theorem dX7_wayAt_4 : decode cX7_wayAt 4 = .ok (.iload_n 1, 1) := by decide +kernel
set_option maxRecDepth 20000 in
theorem dX7_wayAt_5 : decode cX7_wayAt 5 = .ok (.iadd, 1) := by decide +kernel
set_option maxRecDepth 20000 in
theorem dX7_wayAt_6 : decode cX7_wayAt 6 = .ok (.bipush 19, 2) := by decide +kernel
set_option maxRecDepth 20000 in
theorem dX7_wayAt_8 : decode cX7_wayAt 8 = .ok (.imul, 1) := by decide +kernel
set_option maxRecDepth 20000 in
theorem dX7_wayAt_9 : decode cX7_wayAt 9 = .ok (.iload_n 2, 1) := by decide +kernel
set_option maxRecDepth 20000 in
theorem dX7_wayAt_10 : decode cX7_wayAt 10 = .ok (.iadd, 1) := by decide +kernel
set_option maxRecDepth 20000 in
theorem dX7_wayAt_11 : decode cX7_wayAt 11 = .ok (.ireturn, 1) := by decide +kernel
set_option maxRecDepth 20000 in
theorem dX7_layWays_0 : decode cX7_layWays 0 = .ok (.iconst 0, 1) := by decide +kernel
set_option maxRecDepth 20000 in
theorem dX7_layWays_1 : decode cX7_layWays 1 = .ok (.istore_n 2, 1) := by decide +kernel
set_option maxRecDepth 20000 in
theorem dX7_layWays_2 : decode cX7_layWays 2 = .ok (.iload_n 2, 1) := by decide +kernel
set_option maxRecDepth 20000 in
theorem dX7_layWays_3 : decode cX7_layWays 3 = .ok (.sipush 6859, 3) := by decide +kernel
set_option maxRecDepth 20000 in
theorem dX7_layWays_6 : decode cX7_layWays 6 = .ok (.if_icmp .ge 16, 3) := by decide +kernel
set_option maxRecDepth 20000 in
theorem dX7_layWays_9 : decode cX7_layWays 9 = .ok (.aload_n 0, 1) := by decide +kernel
set_option maxRecDepth 20000 in
theorem dX7_layWays_10 : decode cX7_layWays 10 = .ok (.getfield 45, 3) := by decide +kernel
set_option maxRecDepth 20000 in
theorem dX7_layWays_13 : decode cX7_layWays 13 = .ok (.iload_n 2, 1) := by decide +kernel
set_option maxRecDepth 20000 in
theorem dX7_layWays_14 : decode cX7_layWays 14 = .ok (.lconst 0, 1) := by decide +kernel
set_option maxRecDepth 20000 in
theorem dX7_layWays_15 : decode cX7_layWays 15 = .ok (.lastore, 1) := by decide +kernel
set_option maxRecDepth 20000 in
theorem dX7_layWays_16 : decode cX7_layWays 16 = .ok (.iinc 2 1, 3) := by decide +kernel
set_option maxRecDepth 20000 in
theorem dX7_layWays_19 : decode cX7_layWays 19 = .ok (.goto (-17), 3) := by decide +kernel
set_option maxRecDepth 20000 in
theorem dX7_layWays_22 : decode cX7_layWays 22 = .ok (.aload_n 0, 1) := by decide +kernel
set_option maxRecDepth 20000 in
theorem dX7_layWays_23 : decode cX7_layWays 23 = .ok (.getfield 45, 3) := by decide +kernel
set_option maxRecDepth 20000 in
theorem dX7_layWays_26 : decode cX7_layWays 26 = .ok (.iconst 0, 1) := by decide +kernel
set_option maxRecDepth 20000 in
theorem dX7_layWays_27 : decode cX7_layWays 27 = .ok (.lconst 1, 1) := by decide +kernel
set_option maxRecDepth 20000 in
theorem dX7_layWays_28 : decode cX7_layWays 28 = .ok (.lastore, 1) := by decide +kernel
set_option maxRecDepth 20000 in
theorem dX7_layWays_29 : decode cX7_layWays 29 = .ok (.iconst 1, 1) := by decide +kernel
set_option maxRecDepth 20000 in
theorem dX7_layWays_30 : decode cX7_layWays 30 = .ok (.istore_n 2, 1) := by decide +kernel
set_option maxRecDepth 20000 in
theorem dX7_layWays_31 : decode cX7_layWays 31 = .ok (.iload_n 2, 1) := by decide +kernel
set_option maxRecDepth 20000 in
theorem dX7_layWays_32 : decode cX7_layWays 32 = .ok (.aload_n 0, 1) := by decide +kernel
set_option maxRecDepth 20000 in
theorem dX7_layWays_33 : decode cX7_layWays 33 = .ok (.getfield 7, 3) := by decide +kernel
set_option maxRecDepth 20000 in
theorem dX7_layWays_36 : decode cX7_layWays 36 = .ok (.if_icmp .gt 88, 3) := by decide +kernel
set_option maxRecDepth 20000 in
theorem dX7_layWays_39 : decode cX7_layWays 39 = .ok (.iconst 0, 1) := by decide +kernel
set_option maxRecDepth 20000 in
theorem dX7_layWays_40 : decode cX7_layWays 40 = .ok (.istore_n 3, 1) := by decide +kernel
set_option maxRecDepth 20000 in
theorem dX7_layWays_41 : decode cX7_layWays 41 = .ok (.iload_n 3, 1) := by decide +kernel
set_option maxRecDepth 20000 in
theorem dX7_layWays_42 : decode cX7_layWays 42 = .ok (.iload_n 2, 1) := by decide +kernel
set_option maxRecDepth 20000 in
theorem dX7_layWays_43 : decode cX7_layWays 43 = .ok (.if_icmp .gt 75, 3) := by decide +kernel
set_option maxRecDepth 20000 in
theorem dX7_layWays_46 : decode cX7_layWays 46 = .ok (.iconst 0, 1) := by decide +kernel
set_option maxRecDepth 20000 in
theorem dX7_layWays_47 : decode cX7_layWays 47 = .ok (.istore 4, 2) := by decide +kernel
set_option maxRecDepth 20000 in
theorem dX7_layWays_49 : decode cX7_layWays 49 = .ok (.iload 4, 2) := by decide +kernel
set_option maxRecDepth 20000 in
theorem dX7_layWays_51 : decode cX7_layWays 51 = .ok (.aload_n 0, 1) := by decide +kernel
set_option maxRecDepth 20000 in
theorem dX7_layWays_52 : decode cX7_layWays 52 = .ok (.getfield 7, 3) := by decide +kernel
set_option maxRecDepth 20000 in
theorem dX7_layWays_55 : decode cX7_layWays 55 = .ok (.if_icmp .gt 57, 3) := by decide +kernel
set_option maxRecDepth 20000 in
theorem dX7_layWays_58 : decode cX7_layWays 58 = .ok (.lconst 0, 1) := by decide +kernel
set_option maxRecDepth 20000 in
theorem dX7_layWays_59 : decode cX7_layWays 59 = .ok (.lstore 5, 2) := by decide +kernel
set_option maxRecDepth 20000 in
theorem dX7_layWays_61 : decode cX7_layWays 61 = .ok (.iconst 0, 1) := by decide +kernel
set_option maxRecDepth 20000 in
theorem dX7_layWays_62 : decode cX7_layWays 62 = .ok (.istore 7, 2) := by decide +kernel
set_option maxRecDepth 20000 in
theorem dX7_layWays_64 : decode cX7_layWays 64 = .ok (.iload 7, 2) := by decide +kernel
set_option maxRecDepth 20000 in
theorem dX7_layWays_66 : decode cX7_layWays 66 = .ok (.iload_n 2, 1) := by decide +kernel
set_option maxRecDepth 20000 in
theorem dX7_layWays_67 : decode cX7_layWays 67 = .ok (.if_icmp .ge 25, 3) := by decide +kernel
set_option maxRecDepth 20000 in
theorem dX7_layWays_70 : decode cX7_layWays 70 = .ok (.lload 5, 2) := by decide +kernel
set_option maxRecDepth 20000 in
theorem dX7_layWays_72 : decode cX7_layWays 72 = .ok (.aload_n 0, 1) := by decide +kernel
set_option maxRecDepth 20000 in
theorem dX7_layWays_73 : decode cX7_layWays 73 = .ok (.iload_n 1, 1) := by decide +kernel
set_option maxRecDepth 20000 in
theorem dX7_layWays_74 : decode cX7_layWays 74 = .ok (.iload_n 2, 1) := by decide +kernel
set_option maxRecDepth 20000 in
theorem dX7_layWays_75 : decode cX7_layWays 75 = .ok (.iload_n 3, 1) := by decide +kernel
set_option maxRecDepth 20000 in
theorem dX7_layWays_76 : decode cX7_layWays 76 = .ok (.iload 4, 2) := by decide +kernel
set_option maxRecDepth 20000 in
theorem dX7_layWays_78 : decode cX7_layWays 78 = .ok (.iload 7, 2) := by decide +kernel
set_option maxRecDepth 20000 in
theorem dX7_layWays_80 : decode cX7_layWays 80 = .ok (.invokevirtual 129, 3) := by decide +kernel
set_option maxRecDepth 20000 in
theorem dX7_layWays_83 : decode cX7_layWays 83 = .ok (.ladd, 1) := by decide +kernel
set_option maxRecDepth 20000 in
theorem dX7_layWays_84 : decode cX7_layWays 84 = .ok (.lstore 5, 2) := by decide +kernel
set_option maxRecDepth 20000 in
theorem dX7_layWays_86 : decode cX7_layWays 86 = .ok (.iinc 7 1, 3) := by decide +kernel
set_option maxRecDepth 20000 in
theorem dX7_layWays_89 : decode cX7_layWays 89 = .ok (.goto (-25), 3) := by decide +kernel
set_option maxRecDepth 20000 in
theorem dX7_layWays_92 : decode cX7_layWays 92 = .ok (.aload_n 0, 1) := by decide +kernel
set_option maxRecDepth 20000 in
theorem dX7_layWays_93 : decode cX7_layWays 93 = .ok (.getfield 45, 3) := by decide +kernel
set_option maxRecDepth 20000 in
theorem dX7_layWays_96 : decode cX7_layWays 96 = .ok (.iload_n 2, 1) := by decide +kernel
set_option maxRecDepth 20000 in
theorem dX7_layWays_97 : decode cX7_layWays 97 = .ok (.iload_n 3, 1) := by decide +kernel
set_option maxRecDepth 20000 in
theorem dX7_layWays_98 : decode cX7_layWays 98 = .ok (.iload 4, 2) := by decide +kernel
set_option maxRecDepth 20000 in
theorem dX7_layWays_100 : decode cX7_layWays 100 = .ok (.invokestatic 133, 3) := by decide +kernel
set_option maxRecDepth 20000 in
theorem dX7_layWays_103 : decode cX7_layWays 103 = .ok (.lload 5, 2) := by decide +kernel
set_option maxRecDepth 20000 in
theorem dX7_layWays_105 : decode cX7_layWays 105 = .ok (.lastore, 1) := by decide +kernel
set_option maxRecDepth 20000 in
theorem dX7_layWays_106 : decode cX7_layWays 106 = .ok (.iinc 4 1, 3) := by decide +kernel
set_option maxRecDepth 20000 in
theorem dX7_layWays_109 : decode cX7_layWays 109 = .ok (.goto (-60), 3) := by decide +kernel
set_option maxRecDepth 20000 in
theorem dX7_layWays_112 : decode cX7_layWays 112 = .ok (.iinc 3 1, 3) := by decide +kernel
set_option maxRecDepth 20000 in
theorem dX7_layWays_115 : decode cX7_layWays 115 = .ok (.goto (-74), 3) := by decide +kernel
set_option maxRecDepth 20000 in
theorem dX7_layWays_118 : decode cX7_layWays 118 = .ok (.iinc 2 1, 3) := by decide +kernel
set_option maxRecDepth 20000 in
theorem dX7_layWays_121 : decode cX7_layWays 121 = .ok (.goto (-90), 3) := by decide +kernel
set_option maxRecDepth 20000 in
theorem dX7_layWays_124 : decode cX7_layWays 124 = .ok (.return_, 1) := by decide +kernel
set_option maxRecDepth 20000 in
theorem dX7_waysBy_0 : decode cX7_waysBy 0 = .ok (.iload 5, 2) := by decide +kernel
set_option maxRecDepth 20000 in
theorem dX7_waysBy_2 : decode cX7_waysBy 2 = .ok (.iload_n 2, 1) := by decide +kernel
set_option maxRecDepth 20000 in
theorem dX7_waysBy_3 : decode cX7_waysBy 3 = .ok (.iload_n 3, 1) := by decide +kernel
set_option maxRecDepth 20000 in
theorem dX7_waysBy_4 : decode cX7_waysBy 4 = .ok (.isub, 1) := by decide +kernel
set_option maxRecDepth 20000 in
theorem dX7_waysBy_5 : decode cX7_waysBy 5 = .ok (.if_icmp .lt 7, 3) := by decide +kernel
set_option maxRecDepth 20000 in
theorem dX7_waysBy_8 : decode cX7_waysBy 8 = .ok (.iconst 1, 1) := by decide +kernel
set_option maxRecDepth 20000 in
theorem dX7_waysBy_9 : decode cX7_waysBy 9 = .ok (.goto 4, 3) := by decide +kernel
set_option maxRecDepth 20000 in
theorem dX7_waysBy_12 : decode cX7_waysBy 12 = .ok (.iconst 0, 1) := by decide +kernel
set_option maxRecDepth 20000 in
theorem dX7_waysBy_13 : decode cX7_waysBy 13 = .ok (.istore 6, 2) := by decide +kernel
set_option maxRecDepth 20000 in
theorem dX7_waysBy_15 : decode cX7_waysBy 15 = .ok (.iload 4, 2) := by decide +kernel
set_option maxRecDepth 20000 in
theorem dX7_waysBy_17 : decode cX7_waysBy 17 = .ok (.iload 6, 2) := by decide +kernel
set_option maxRecDepth 20000 in
theorem dX7_waysBy_19 : decode cX7_waysBy 19 = .ok (.ifCond .eq 7, 3) := by decide +kernel
set_option maxRecDepth 20000 in
theorem dX7_waysBy_22 : decode cX7_waysBy 22 = .ok (.iconst 1, 1) := by decide +kernel
set_option maxRecDepth 20000 in
theorem dX7_waysBy_23 : decode cX7_waysBy 23 = .ok (.goto 4, 3) := by decide +kernel
set_option maxRecDepth 20000 in
theorem dX7_waysBy_26 : decode cX7_waysBy 26 = .ok (.iconst 0, 1) := by decide +kernel
set_option maxRecDepth 20000 in
theorem dX7_waysBy_27 : decode cX7_waysBy 27 = .ok (.isub, 1) := by decide +kernel
set_option maxRecDepth 20000 in
theorem dX7_waysBy_28 : decode cX7_waysBy 28 = .ok (.istore 7, 2) := by decide +kernel
set_option maxRecDepth 20000 in
theorem dX7_waysBy_30 : decode cX7_waysBy 30 = .ok (.iload_n 1, 1) := by decide +kernel
set_option maxRecDepth 20000 in
theorem dX7_waysBy_31 : decode cX7_waysBy 31 = .ok (.iconst 2, 1) := by decide +kernel
set_option maxRecDepth 20000 in
theorem dX7_waysBy_32 : decode cX7_waysBy 32 = .ok (.if_icmp .eq 8, 3) := by decide +kernel
set_option maxRecDepth 20000 in
theorem dX7_waysBy_35 : decode cX7_waysBy 35 = .ok (.iload 6, 2) := by decide +kernel
set_option maxRecDepth 20000 in
theorem dX7_waysBy_37 : decode cX7_waysBy 37 = .ok (.ifCond .eq 12, 3) := by decide +kernel
set_option maxRecDepth 20000 in
theorem dX7_waysBy_40 : decode cX7_waysBy 40 = .ok (.iload_n 2, 1) := by decide +kernel
set_option maxRecDepth 20000 in
theorem dX7_waysBy_41 : decode cX7_waysBy 41 = .ok (.iconst 1, 1) := by decide +kernel
set_option maxRecDepth 20000 in
theorem dX7_waysBy_42 : decode cX7_waysBy 42 = .ok (.isub, 1) := by decide +kernel
set_option maxRecDepth 20000 in
theorem dX7_waysBy_43 : decode cX7_waysBy 43 = .ok (.iload 5, 2) := by decide +kernel
set_option maxRecDepth 20000 in
theorem dX7_waysBy_45 : decode cX7_waysBy 45 = .ok (.isub, 1) := by decide +kernel
set_option maxRecDepth 20000 in
theorem dX7_waysBy_46 : decode cX7_waysBy 46 = .ok (.goto 4, 3) := by decide +kernel
set_option maxRecDepth 20000 in
theorem dX7_waysBy_49 : decode cX7_waysBy 49 = .ok (.iload_n 3, 1) := by decide +kernel
set_option maxRecDepth 20000 in
theorem dX7_waysBy_50 : decode cX7_waysBy 50 = .ok (.istore 8, 2) := by decide +kernel
set_option maxRecDepth 20000 in
theorem dX7_waysBy_52 : decode cX7_waysBy 52 = .ok (.iload 7, 2) := by decide +kernel
set_option maxRecDepth 20000 in
theorem dX7_waysBy_54 : decode cX7_waysBy 54 = .ok (.ifCond .ge 7, 3) := by decide +kernel
set_option maxRecDepth 20000 in
theorem dX7_waysBy_57 : decode cX7_waysBy 57 = .ok (.lconst 0, 1) := by decide +kernel
set_option maxRecDepth 20000 in
theorem dX7_waysBy_58 : decode cX7_waysBy 58 = .ok (.goto 18, 3) := by decide +kernel
set_option maxRecDepth 20000 in
theorem dX7_waysBy_61 : decode cX7_waysBy 61 = .ok (.aload_n 0, 1) := by decide +kernel
set_option maxRecDepth 20000 in
theorem dX7_waysBy_62 : decode cX7_waysBy 62 = .ok (.getfield 45, 3) := by decide +kernel
set_option maxRecDepth 20000 in
theorem dX7_waysBy_65 : decode cX7_waysBy 65 = .ok (.iload_n 2, 1) := by decide +kernel
set_option maxRecDepth 20000 in
theorem dX7_waysBy_66 : decode cX7_waysBy 66 = .ok (.iconst 1, 1) := by decide +kernel
set_option maxRecDepth 20000 in
theorem dX7_waysBy_67 : decode cX7_waysBy 67 = .ok (.isub, 1) := by decide +kernel
set_option maxRecDepth 20000 in
theorem dX7_waysBy_68 : decode cX7_waysBy 68 = .ok (.iload 8, 2) := by decide +kernel
set_option maxRecDepth 20000 in
theorem dX7_waysBy_70 : decode cX7_waysBy 70 = .ok (.iload 7, 2) := by decide +kernel
set_option maxRecDepth 20000 in
theorem dX7_waysBy_72 : decode cX7_waysBy 72 = .ok (.invokestatic 133, 3) := by decide +kernel
set_option maxRecDepth 20000 in
theorem dX7_waysBy_75 : decode cX7_waysBy 75 = .ok (.laload, 1) := by decide +kernel
set_option maxRecDepth 20000 in
theorem dX7_waysBy_76 : decode cX7_waysBy 76 = .ok (.lreturn, 1) := by decide +kernel
set_option maxRecDepth 20000 in
theorem dX7_waysAt_0 : decode cX7_waysAt 0 = .ok (.aload_n 0, 1) := by decide +kernel
set_option maxRecDepth 20000 in
theorem dX7_waysAt_1 : decode cX7_waysAt 1 = .ok (.getfield 7, 3) := by decide +kernel
set_option maxRecDepth 20000 in
theorem dX7_waysAt_4 : decode cX7_waysAt 4 = .ok (.iload_n 2, 1) := by decide +kernel
set_option maxRecDepth 20000 in
theorem dX7_waysAt_5 : decode cX7_waysAt 5 = .ok (.isub, 1) := by decide +kernel
set_option maxRecDepth 20000 in
theorem dX7_waysAt_6 : decode cX7_waysAt 6 = .ok (.istore 4, 2) := by decide +kernel
set_option maxRecDepth 20000 in
theorem dX7_waysAt_8 : decode cX7_waysAt 8 = .ok (.iload_n 1, 1) := by decide +kernel
set_option maxRecDepth 20000 in
theorem dX7_waysAt_9 : decode cX7_waysAt 9 = .ok (.iconst (-1), 1) := by decide +kernel
set_option maxRecDepth 20000 in
theorem dX7_waysAt_10 : decode cX7_waysAt 10 = .ok (.if_icmp .ne 13, 3) := by decide +kernel
set_option maxRecDepth 20000 in
theorem dX7_waysAt_13 : decode cX7_waysAt 13 = .ok (.aload_n 0, 1) := by decide +kernel
set_option maxRecDepth 20000 in
theorem dX7_waysAt_14 : decode cX7_waysAt 14 = .ok (.getfield 39, 3) := by decide +kernel
set_option maxRecDepth 20000 in
theorem dX7_waysAt_17 : decode cX7_waysAt 17 = .ok (.iload 4, 2) := by decide +kernel
set_option maxRecDepth 20000 in
theorem dX7_waysAt_19 : decode cX7_waysAt 19 = .ok (.iconst 1, 1) := by decide +kernel
set_option maxRecDepth 20000 in
theorem dX7_waysAt_20 : decode cX7_waysAt 20 = .ok (.isub, 1) := by decide +kernel
set_option maxRecDepth 20000 in
theorem dX7_waysAt_21 : decode cX7_waysAt 21 = .ok (.laload, 1) := by decide +kernel
set_option maxRecDepth 20000 in
theorem dX7_waysAt_22 : decode cX7_waysAt 22 = .ok (.lreturn, 1) := by decide +kernel
set_option maxRecDepth 20000 in
theorem dX7_waysAt_23 : decode cX7_waysAt 23 = .ok (.iload_n 2, 1) := by decide +kernel
set_option maxRecDepth 20000 in
theorem dX7_waysAt_24 : decode cX7_waysAt 24 = .ok (.ifCond .ne 62, 3) := by decide +kernel
set_option maxRecDepth 20000 in
theorem dX7_waysAt_27 : decode cX7_waysAt 27 = .ok (.iload_n 1, 1) := by decide +kernel
set_option maxRecDepth 20000 in
theorem dX7_waysAt_28 : decode cX7_waysAt 28 = .ok (.iconst 1, 1) := by decide +kernel
set_option maxRecDepth 20000 in
theorem dX7_waysAt_29 : decode cX7_waysAt 29 = .ok (.if_icmp .ne 12, 3) := by decide +kernel
set_option maxRecDepth 20000 in
theorem dX7_waysAt_32 : decode cX7_waysAt 32 = .ok (.aload_n 0, 1) := by decide +kernel
set_option maxRecDepth 20000 in
theorem dX7_waysAt_33 : decode cX7_waysAt 33 = .ok (.getfield 137, 3) := by decide +kernel
set_option maxRecDepth 20000 in
theorem dX7_waysAt_36 : decode cX7_waysAt 36 = .ok (.iconst 1, 1) := by decide +kernel
set_option maxRecDepth 20000 in
theorem dX7_waysAt_37 : decode cX7_waysAt 37 = .ok (.isub, 1) := by decide +kernel
set_option maxRecDepth 20000 in
theorem dX7_waysAt_38 : decode cX7_waysAt 38 = .ok (.goto 7, 3) := by decide +kernel
set_option maxRecDepth 20000 in
theorem dX7_waysAt_41 : decode cX7_waysAt 41 = .ok (.aload_n 0, 1) := by decide +kernel
set_option maxRecDepth 20000 in
theorem dX7_waysAt_42 : decode cX7_waysAt 42 = .ok (.getfield 137, 3) := by decide +kernel
set_option maxRecDepth 20000 in
theorem dX7_waysAt_45 : decode cX7_waysAt 45 = .ok (.istore 5, 2) := by decide +kernel
set_option maxRecDepth 20000 in
theorem dX7_waysAt_47 : decode cX7_waysAt 47 = .ok (.iload 5, 2) := by decide +kernel
set_option maxRecDepth 20000 in
theorem dX7_waysAt_49 : decode cX7_waysAt 49 = .ok (.ifCond .lt 12, 3) := by decide +kernel
set_option maxRecDepth 20000 in
theorem dX7_waysAt_52 : decode cX7_waysAt 52 = .ok (.iload 5, 2) := by decide +kernel
set_option maxRecDepth 20000 in
theorem dX7_waysAt_54 : decode cX7_waysAt 54 = .ok (.aload_n 0, 1) := by decide +kernel
set_option maxRecDepth 20000 in
theorem dX7_waysAt_55 : decode cX7_waysAt 55 = .ok (.getfield 7, 3) := by decide +kernel
set_option maxRecDepth 20000 in
theorem dX7_waysAt_58 : decode cX7_waysAt 58 = .ok (.if_icmp .le 7, 3) := by decide +kernel
set_option maxRecDepth 20000 in
theorem dX7_waysAt_61 : decode cX7_waysAt 61 = .ok (.lconst 0, 1) := by decide +kernel
set_option maxRecDepth 20000 in
theorem dX7_waysAt_62 : decode cX7_waysAt 62 = .ok (.goto 23, 3) := by decide +kernel
set_option maxRecDepth 20000 in
theorem dX7_waysAt_65 : decode cX7_waysAt 65 = .ok (.aload_n 0, 1) := by decide +kernel
set_option maxRecDepth 20000 in
theorem dX7_waysAt_66 : decode cX7_waysAt 66 = .ok (.getfield 45, 3) := by decide +kernel
set_option maxRecDepth 20000 in
theorem dX7_waysAt_69 : decode cX7_waysAt 69 = .ok (.iload 4, 2) := by decide +kernel
set_option maxRecDepth 20000 in
theorem dX7_waysAt_71 : decode cX7_waysAt 71 = .ok (.iconst 1, 1) := by decide +kernel
set_option maxRecDepth 20000 in
theorem dX7_waysAt_72 : decode cX7_waysAt 72 = .ok (.isub, 1) := by decide +kernel
set_option maxRecDepth 20000 in
theorem dX7_waysAt_73 : decode cX7_waysAt 73 = .ok (.iload 4, 2) := by decide +kernel
set_option maxRecDepth 20000 in
theorem dX7_waysAt_75 : decode cX7_waysAt 75 = .ok (.iconst 1, 1) := by decide +kernel
set_option maxRecDepth 20000 in
theorem dX7_waysAt_76 : decode cX7_waysAt 76 = .ok (.isub, 1) := by decide +kernel
set_option maxRecDepth 20000 in
theorem dX7_waysAt_77 : decode cX7_waysAt 77 = .ok (.iload_n 3, 1) := by decide +kernel
set_option maxRecDepth 20000 in
theorem dX7_waysAt_78 : decode cX7_waysAt 78 = .ok (.isub, 1) := by decide +kernel
set_option maxRecDepth 20000 in
theorem dX7_waysAt_79 : decode cX7_waysAt 79 = .ok (.iload 5, 2) := by decide +kernel
set_option maxRecDepth 20000 in
theorem dX7_waysAt_81 : decode cX7_waysAt 81 = .ok (.invokestatic 133, 3) := by decide +kernel
set_option maxRecDepth 20000 in
theorem dX7_waysAt_84 : decode cX7_waysAt 84 = .ok (.laload, 1) := by decide +kernel
set_option maxRecDepth 20000 in
theorem dX7_waysAt_85 : decode cX7_waysAt 85 = .ok (.lreturn, 1) := by decide +kernel
set_option maxRecDepth 20000 in
theorem dX7_waysAt_86 : decode cX7_waysAt 86 = .ok (.aload_n 0, 1) := by decide +kernel
set_option maxRecDepth 20000 in
theorem dX7_waysAt_87 : decode cX7_waysAt 87 = .ok (.iload_n 1, 1) := by decide +kernel
set_option maxRecDepth 20000 in
theorem dX7_waysAt_88 : decode cX7_waysAt 88 = .ok (.iload 4, 2) := by decide +kernel
set_option maxRecDepth 20000 in
theorem dX7_waysAt_90 : decode cX7_waysAt 90 = .ok (.aload_n 0, 1) := by decide +kernel
set_option maxRecDepth 20000 in
theorem dX7_waysAt_91 : decode cX7_waysAt 91 = .ok (.getfield 140, 3) := by decide +kernel
set_option maxRecDepth 20000 in
theorem dX7_waysAt_94 : decode cX7_waysAt 94 = .ok (.aload_n 0, 1) := by decide +kernel
set_option maxRecDepth 20000 in
theorem dX7_waysAt_95 : decode cX7_waysAt 95 = .ok (.getfield 137, 3) := by decide +kernel
set_option maxRecDepth 20000 in
theorem dX7_waysAt_98 : decode cX7_waysAt 98 = .ok (.iload_n 3, 1) := by decide +kernel
set_option maxRecDepth 20000 in
theorem dX7_waysAt_99 : decode cX7_waysAt 99 = .ok (.invokevirtual 129, 3) := by decide +kernel
set_option maxRecDepth 20000 in
theorem dX7_waysAt_102 : decode cX7_waysAt 102 = .ok (.lreturn, 1) := by decide +kernel
set_option maxRecDepth 20000 in
theorem dX7_put_0 : decode cX7_put 0 = .ok (.aload_n 0, 1) := by decide +kernel
set_option maxRecDepth 20000 in
theorem dX7_put_1 : decode cX7_put 1 = .ok (.getfield 7, 3) := by decide +kernel
set_option maxRecDepth 20000 in
theorem dX7_put_4 : decode cX7_put 4 = .ok (.iload_n 2, 1) := by decide +kernel
set_option maxRecDepth 20000 in
theorem dX7_put_5 : decode cX7_put 5 = .ok (.isub, 1) := by decide +kernel
set_option maxRecDepth 20000 in
theorem dX7_put_6 : decode cX7_put 6 = .ok (.istore 4, 2) := by decide +kernel
set_option maxRecDepth 20000 in
theorem dX7_put_8 : decode cX7_put 8 = .ok (.iload_n 2, 1) := by decide +kernel
set_option maxRecDepth 20000 in
theorem dX7_put_9 : decode cX7_put 9 = .ok (.ifCond .le 18, 3) := by decide +kernel
set_option maxRecDepth 20000 in
theorem dX7_put_12 : decode cX7_put 12 = .ok (.iload_n 3, 1) := by decide +kernel
set_option maxRecDepth 20000 in
theorem dX7_put_13 : decode cX7_put 13 = .ok (.iload 4, 2) := by decide +kernel
set_option maxRecDepth 20000 in
theorem dX7_put_15 : decode cX7_put 15 = .ok (.aload_n 0, 1) := by decide +kernel
set_option maxRecDepth 20000 in
theorem dX7_put_16 : decode cX7_put 16 = .ok (.getfield 140, 3) := by decide +kernel
set_option maxRecDepth 20000 in
theorem dX7_put_19 : decode cX7_put 19 = .ok (.isub, 1) := by decide +kernel
set_option maxRecDepth 20000 in
theorem dX7_put_20 : decode cX7_put 20 = .ok (.if_icmp .lt 7, 3) := by decide +kernel
set_option maxRecDepth 20000 in
theorem dX7_put_23 : decode cX7_put 23 = .ok (.iconst 1, 1) := by decide +kernel
set_option maxRecDepth 20000 in
theorem dX7_put_24 : decode cX7_put 24 = .ok (.goto 4, 3) := by decide +kernel
set_option maxRecDepth 20000 in
theorem dX7_put_27 : decode cX7_put 27 = .ok (.iconst 0, 1) := by decide +kernel
set_option maxRecDepth 20000 in
theorem dX7_put_28 : decode cX7_put 28 = .ok (.istore 5, 2) := by decide +kernel
set_option maxRecDepth 20000 in
theorem dX7_put_30 : decode cX7_put 30 = .ok (.aload_n 0, 1) := by decide +kernel
set_option maxRecDepth 20000 in
theorem dX7_put_31 : decode cX7_put 31 = .ok (.dup, 1) := by decide +kernel
set_option maxRecDepth 20000 in
theorem dX7_put_32 : decode cX7_put 32 = .ok (.getfield 137, 3) := by decide +kernel
set_option maxRecDepth 20000 in
theorem dX7_put_35 : decode cX7_put 35 = .ok (.iload_n 1, 1) := by decide +kernel
set_option maxRecDepth 20000 in
theorem dX7_put_36 : decode cX7_put 36 = .ok (.iconst 1, 1) := by decide +kernel
set_option maxRecDepth 20000 in
theorem dX7_put_37 : decode cX7_put 37 = .ok (.if_icmp .ne 7, 3) := by decide +kernel
set_option maxRecDepth 20000 in
theorem dX7_put_40 : decode cX7_put 40 = .ok (.iload_n 2, 1) := by decide +kernel
set_option maxRecDepth 20000 in
theorem dX7_put_41 : decode cX7_put 41 = .ok (.ifCond .eq 8, 3) := by decide +kernel
set_option maxRecDepth 20000 in
theorem dX7_put_44 : decode cX7_put 44 = .ok (.iload 5, 2) := by decide +kernel
set_option maxRecDepth 20000 in
theorem dX7_put_46 : decode cX7_put 46 = .ok (.ifCond .eq 7, 3) := by decide +kernel
set_option maxRecDepth 20000 in
theorem dX7_put_49 : decode cX7_put 49 = .ok (.iconst 1, 1) := by decide +kernel
set_option maxRecDepth 20000 in
theorem dX7_put_50 : decode cX7_put 50 = .ok (.goto 4, 3) := by decide +kernel
set_option maxRecDepth 20000 in
theorem dX7_put_53 : decode cX7_put 53 = .ok (.iconst 0, 1) := by decide +kernel
set_option maxRecDepth 20000 in
theorem dX7_put_54 : decode cX7_put 54 = .ok (.isub, 1) := by decide +kernel
set_option maxRecDepth 20000 in
theorem dX7_put_55 : decode cX7_put 55 = .ok (.putfield 137, 3) := by decide +kernel
set_option maxRecDepth 20000 in
theorem dX7_put_58 : decode cX7_put 58 = .ok (.aload_n 0, 1) := by decide +kernel
set_option maxRecDepth 20000 in
theorem dX7_put_59 : decode cX7_put 59 = .ok (.iload_n 1, 1) := by decide +kernel
set_option maxRecDepth 20000 in
theorem dX7_put_60 : decode cX7_put 60 = .ok (.iconst 2, 1) := by decide +kernel
set_option maxRecDepth 20000 in
theorem dX7_put_61 : decode cX7_put 61 = .ok (.if_icmp .eq 12, 3) := by decide +kernel
set_option maxRecDepth 20000 in
theorem dX7_put_64 : decode cX7_put 64 = .ok (.iload_n 2, 1) := by decide +kernel
set_option maxRecDepth 20000 in
theorem dX7_put_65 : decode cX7_put 65 = .ok (.ifCond .eq 8, 3) := by decide +kernel
set_option maxRecDepth 20000 in
theorem dX7_put_68 : decode cX7_put 68 = .ok (.iload 5, 2) := by decide +kernel
set_option maxRecDepth 20000 in
theorem dX7_put_70 : decode cX7_put 70 = .ok (.ifCond .eq 12, 3) := by decide +kernel
set_option maxRecDepth 20000 in
theorem dX7_put_73 : decode cX7_put 73 = .ok (.iload 4, 2) := by decide +kernel
set_option maxRecDepth 20000 in
theorem dX7_put_75 : decode cX7_put 75 = .ok (.iconst 1, 1) := by decide +kernel
set_option maxRecDepth 20000 in
theorem dX7_put_76 : decode cX7_put 76 = .ok (.isub, 1) := by decide +kernel
set_option maxRecDepth 20000 in
theorem dX7_put_77 : decode cX7_put 77 = .ok (.iload_n 3, 1) := by decide +kernel
set_option maxRecDepth 20000 in
theorem dX7_put_78 : decode cX7_put 78 = .ok (.isub, 1) := by decide +kernel
set_option maxRecDepth 20000 in
theorem dX7_put_79 : decode cX7_put 79 = .ok (.goto 7, 3) := by decide +kernel
set_option maxRecDepth 20000 in
theorem dX7_put_82 : decode cX7_put 82 = .ok (.aload_n 0, 1) := by decide +kernel
set_option maxRecDepth 20000 in
theorem dX7_put_83 : decode cX7_put 83 = .ok (.getfield 140, 3) := by decide +kernel
set_option maxRecDepth 20000 in
theorem dX7_put_86 : decode cX7_put 86 = .ok (.putfield 140, 3) := by decide +kernel
set_option maxRecDepth 20000 in
theorem dX7_put_89 : decode cX7_put 89 = .ok (.iconst 0, 1) := by decide +kernel
set_option maxRecDepth 20000 in
theorem dX7_put_90 : decode cX7_put 90 = .ok (.istore 6, 2) := by decide +kernel
set_option maxRecDepth 20000 in
theorem dX7_put_92 : decode cX7_put 92 = .ok (.iload_n 3, 1) := by decide +kernel
set_option maxRecDepth 20000 in
theorem dX7_put_93 : decode cX7_put 93 = .ok (.istore 7, 2) := by decide +kernel
set_option maxRecDepth 20000 in
theorem dX7_put_95 : decode cX7_put 95 = .ok (.aload_n 0, 1) := by decide +kernel
set_option maxRecDepth 20000 in
theorem dX7_put_96 : decode cX7_put 96 = .ok (.getfield 143, 3) := by decide +kernel
set_option maxRecDepth 20000 in
theorem dX7_put_99 : decode cX7_put 99 = .ok (.iload 6, 2) := by decide +kernel
set_option maxRecDepth 20000 in
theorem dX7_put_101 : decode cX7_put 101 = .ok (.ishr, 1) := by decide +kernel
set_option maxRecDepth 20000 in
theorem dX7_put_102 : decode cX7_put 102 = .ok (.iconst 1, 1) := by decide +kernel
set_option maxRecDepth 20000 in
theorem dX7_put_103 : decode cX7_put 103 = .ok (.iand, 1) := by decide +kernel
set_option maxRecDepth 20000 in
theorem dX7_put_104 : decode cX7_put 104 = .ok (.iconst 1, 1) := by decide +kernel
set_option maxRecDepth 20000 in
theorem dX7_put_105 : decode cX7_put 105 = .ok (.if_icmp .eq 8, 3) := by decide +kernel
set_option maxRecDepth 20000 in
theorem dX7_put_108 : decode cX7_put 108 = .ok (.iload 7, 2) := by decide +kernel
set_option maxRecDepth 20000 in
theorem dX7_put_110 : decode cX7_put 110 = .ok (.ifCond .le 31, 3) := by decide +kernel
set_option maxRecDepth 20000 in
theorem dX7_put_113 : decode cX7_put 113 = .ok (.iload 7, 2) := by decide +kernel
set_option maxRecDepth 20000 in
theorem dX7_put_115 : decode cX7_put 115 = .ok (.aload_n 0, 1) := by decide +kernel
set_option maxRecDepth 20000 in
theorem dX7_put_116 : decode cX7_put 116 = .ok (.getfield 143, 3) := by decide +kernel
set_option maxRecDepth 20000 in
theorem dX7_put_119 : decode cX7_put 119 = .ok (.iload 6, 2) := by decide +kernel
set_option maxRecDepth 20000 in
theorem dX7_put_121 : decode cX7_put 121 = .ok (.ishr, 1) := by decide +kernel
set_option maxRecDepth 20000 in
theorem dX7_put_122 : decode cX7_put 122 = .ok (.iconst 1, 1) := by decide +kernel
set_option maxRecDepth 20000 in
theorem dX7_put_123 : decode cX7_put 123 = .ok (.iand, 1) := by decide +kernel
set_option maxRecDepth 20000 in
theorem dX7_put_124 : decode cX7_put 124 = .ok (.ifCond .ne 7, 3) := by decide +kernel
set_option maxRecDepth 20000 in
theorem dX7_put_127 : decode cX7_put 127 = .ok (.iconst 1, 1) := by decide +kernel
set_option maxRecDepth 20000 in
theorem dX7_put_128 : decode cX7_put 128 = .ok (.goto 4, 3) := by decide +kernel
set_option maxRecDepth 20000 in
theorem dX7_put_131 : decode cX7_put 131 = .ok (.iconst 0, 1) := by decide +kernel
set_option maxRecDepth 20000 in
theorem dX7_put_132 : decode cX7_put 132 = .ok (.isub, 1) := by decide +kernel
set_option maxRecDepth 20000 in
theorem dX7_put_133 : decode cX7_put 133 = .ok (.istore 7, 2) := by decide +kernel
set_option maxRecDepth 20000 in
theorem dX7_put_135 : decode cX7_put 135 = .ok (.iinc 6 1, 3) := by decide +kernel
set_option maxRecDepth 20000 in
theorem dX7_put_138 : decode cX7_put 138 = .ok (.goto (-43), 3) := by decide +kernel
set_option maxRecDepth 20000 in
theorem dX7_put_141 : decode cX7_put 141 = .ok (.aload_n 0, 1) := by decide +kernel
set_option maxRecDepth 20000 in
theorem dX7_put_142 : decode cX7_put 142 = .ok (.dup, 1) := by decide +kernel
set_option maxRecDepth 20000 in
theorem dX7_put_143 : decode cX7_put 143 = .ok (.getfield 143, 3) := by decide +kernel
set_option maxRecDepth 20000 in
theorem dX7_put_146 : decode cX7_put 146 = .ok (.iconst 1, 1) := by decide +kernel
set_option maxRecDepth 20000 in
theorem dX7_put_147 : decode cX7_put 147 = .ok (.iload 6, 2) := by decide +kernel
set_option maxRecDepth 20000 in
theorem dX7_put_149 : decode cX7_put 149 = .ok (.ishl, 1) := by decide +kernel
set_option maxRecDepth 20000 in
theorem dX7_put_150 : decode cX7_put 150 = .ok (.ior, 1) := by decide +kernel
set_option maxRecDepth 20000 in
theorem dX7_put_151 : decode cX7_put 151 = .ok (.putfield 143, 3) := by decide +kernel
set_option maxRecDepth 20000 in
theorem dX7_put_154 : decode cX7_put 154 = .ok (.aload_n 0, 1) := by decide +kernel
set_option maxRecDepth 20000 in
theorem dX7_put_155 : decode cX7_put 155 = .ok (.getfield 29, 3) := by decide +kernel
set_option maxRecDepth 20000 in
theorem dX7_put_158 : decode cX7_put 158 = .ok (.iload_n 2, 1) := by decide +kernel
set_option maxRecDepth 20000 in
theorem dX7_put_159 : decode cX7_put 159 = .ok (.iload 6, 2) := by decide +kernel
set_option maxRecDepth 20000 in
theorem dX7_put_161 : decode cX7_put 161 = .ok (.iastore, 1) := by decide +kernel
set_option maxRecDepth 20000 in
theorem dX7_put_162 : decode cX7_put 162 = .ok (.return_, 1) := by decide +kernel
set_option maxRecDepth 20000 in
theorem dX7_beginRow_0 : decode cX7_beginRow 0 = .ok (.aload_n 0, 1) := by decide +kernel
set_option maxRecDepth 20000 in
theorem dX7_beginRow_1 : decode cX7_beginRow 1 = .ok (.invokevirtual 112, 3) := by decide +kernel
set_option maxRecDepth 20000 in
theorem dX7_beginRow_4 : decode cX7_beginRow 4 = .ok (.aload_n 0, 1) := by decide +kernel
set_option maxRecDepth 20000 in
theorem dX7_beginRow_5 : decode cX7_beginRow 5 = .ok (.iload_n 1, 1) := by decide +kernel
set_option maxRecDepth 20000 in
theorem dX7_beginRow_6 : decode cX7_beginRow 6 = .ok (.iconst (-1), 1) := by decide +kernel
set_option maxRecDepth 20000 in
theorem dX7_beginRow_7 : decode cX7_beginRow 7 = .ok (.if_icmp .ne 7, 3) := by decide +kernel
set_option maxRecDepth 20000 in
theorem dX7_beginRow_10 : decode cX7_beginRow 10 = .ok (.iconst 1, 1) := by decide +kernel
set_option maxRecDepth 20000 in
theorem dX7_beginRow_11 : decode cX7_beginRow 11 = .ok (.goto 4, 3) := by decide +kernel
set_option maxRecDepth 20000 in
theorem dX7_beginRow_14 : decode cX7_beginRow 14 = .ok (.iload_n 1, 1) := by decide +kernel
set_option maxRecDepth 20000 in
theorem dX7_beginRow_15 : decode cX7_beginRow 15 = .ok (.invokevirtual 146, 3) := by decide +kernel
set_option maxRecDepth 20000 in
theorem dX7_beginRow_18 : decode cX7_beginRow 18 = .ok (.aload_n 0, 1) := by decide +kernel
set_option maxRecDepth 20000 in
theorem dX7_beginRow_19 : decode cX7_beginRow 19 = .ok (.iconst 0, 1) := by decide +kernel
set_option maxRecDepth 20000 in
theorem dX7_beginRow_20 : decode cX7_beginRow 20 = .ok (.putfield 143, 3) := by decide +kernel
set_option maxRecDepth 20000 in
theorem dX7_beginRow_23 : decode cX7_beginRow 23 = .ok (.aload_n 0, 1) := by decide +kernel
set_option maxRecDepth 20000 in
theorem dX7_beginRow_24 : decode cX7_beginRow 24 = .ok (.iconst 0, 1) := by decide +kernel
set_option maxRecDepth 20000 in
theorem dX7_beginRow_25 : decode cX7_beginRow 25 = .ok (.putfield 140, 3) := by decide +kernel
set_option maxRecDepth 20000 in
theorem dX7_beginRow_28 : decode cX7_beginRow 28 = .ok (.aload_n 0, 1) := by decide +kernel
set_option maxRecDepth 20000 in
theorem dX7_beginRow_29 : decode cX7_beginRow 29 = .ok (.iload_n 2, 1) := by decide +kernel
set_option maxRecDepth 20000 in
theorem dX7_beginRow_30 : decode cX7_beginRow 30 = .ok (.putfield 137, 3) := by decide +kernel
set_option maxRecDepth 20000 in
theorem dX7_beginRow_33 : decode cX7_beginRow 33 = .ok (.return_, 1) := by decide +kernel
set_option maxRecDepth 20000 in
theorem dX7_isKind_0 : decode cX7_isKind 0 = .ok (.iload_n 0, 1) := by decide +kernel
set_option maxRecDepth 20000 in
theorem dX7_isKind_1 : decode cX7_isKind 1 = .ok (.iconst (-1), 1) := by decide +kernel
set_option maxRecDepth 20000 in
theorem dX7_isKind_2 : decode cX7_isKind 2 = .ok (.if_icmp .eq 13, 3) := by decide +kernel
set_option maxRecDepth 20000 in
theorem dX7_isKind_5 : decode cX7_isKind 5 = .ok (.iload_n 0, 1) := by decide +kernel
set_option maxRecDepth 20000 in
theorem dX7_isKind_6 : decode cX7_isKind 6 = .ok (.iconst 1, 1) := by decide +kernel
set_option maxRecDepth 20000 in
theorem dX7_isKind_7 : decode cX7_isKind 7 = .ok (.if_icmp .eq 8, 3) := by decide +kernel
set_option maxRecDepth 20000 in
theorem dX7_isKind_10 : decode cX7_isKind 10 = .ok (.iload_n 0, 1) := by decide +kernel
set_option maxRecDepth 20000 in
theorem dX7_isKind_11 : decode cX7_isKind 11 = .ok (.iconst 2, 1) := by decide +kernel
set_option maxRecDepth 20000 in
theorem dX7_isKind_12 : decode cX7_isKind 12 = .ok (.if_icmp .ne 7, 3) := by decide +kernel
set_option maxRecDepth 20000 in
theorem dX7_isKind_15 : decode cX7_isKind 15 = .ok (.iconst 1, 1) := by decide +kernel
set_option maxRecDepth 20000 in
theorem dX7_isKind_16 : decode cX7_isKind 16 = .ok (.goto 4, 3) := by decide +kernel
set_option maxRecDepth 20000 in
theorem dX7_isKind_19 : decode cX7_isKind 19 = .ok (.iconst 0, 1) := by decide +kernel
set_option maxRecDepth 20000 in
theorem dX7_isKind_20 : decode cX7_isKind 20 = .ok (.ireturn, 1) := by decide +kernel
set_option maxRecDepth 20000 in
theorem dX7_row_0 : decode cX7_row 0 = .ok (.iload_n 1, 1) := by decide +kernel
set_option maxRecDepth 20000 in
theorem dX7_row_1 : decode cX7_row 1 = .ok (.invokestatic 149, 3) := by decide +kernel
set_option maxRecDepth 20000 in
theorem dX7_row_4 : decode cX7_row 4 = .ok (.ifCond .eq 9, 3) := by decide +kernel
set_option maxRecDepth 20000 in
theorem dX7_row_7 : decode cX7_row 7 = .ok (.lload_n 3, 1) := by decide +kernel
set_option maxRecDepth 20000 in
theorem dX7_row_8 : decode cX7_row 8 = .ok (.lconst 0, 1) := by decide +kernel
set_option maxRecDepth 20000 in
theorem dX7_row_9 : decode cX7_row 9 = .ok (.lcmp, 1) := by decide +kernel
set_option maxRecDepth 20000 in
theorem dX7_row_10 : decode cX7_row 10 = .ok (.ifCond .ge 6, 3) := by decide +kernel
set_option maxRecDepth 20000 in
theorem dX7_row_13 : decode cX7_row 13 = .ok (.bipush (-2), 2) := by decide +kernel
set_option maxRecDepth 20000 in
theorem dX7_row_15 : decode cX7_row 15 = .ok (.ireturn, 1) := by decide +kernel
set_option maxRecDepth 20000 in
theorem dX7_row_16 : decode cX7_row 16 = .ok (.iload_n 1, 1) := by decide +kernel
set_option maxRecDepth 20000 in
theorem dX7_row_17 : decode cX7_row 17 = .ok (.iconst (-1), 1) := by decide +kernel
set_option maxRecDepth 20000 in
theorem dX7_row_18 : decode cX7_row 18 = .ok (.if_icmp .eq 19, 3) := by decide +kernel
set_option maxRecDepth 20000 in
theorem dX7_row_21 : decode cX7_row 21 = .ok (.iload_n 2, 1) := by decide +kernel
set_option maxRecDepth 20000 in
theorem dX7_row_22 : decode cX7_row 22 = .ok (.i2l, 1) := by decide +kernel
set_option maxRecDepth 20000 in
theorem dX7_row_23 : decode cX7_row 23 = .ok (.lconst 0, 1) := by decide +kernel
set_option maxRecDepth 20000 in
theorem dX7_row_24 : decode cX7_row 24 = .ok (.aload_n 0, 1) := by decide +kernel
set_option maxRecDepth 20000 in
theorem dX7_row_25 : decode cX7_row 25 = .ok (.getfield 7, 3) := by decide +kernel
set_option maxRecDepth 20000 in
theorem dX7_row_28 : decode cX7_row 28 = .ok (.i2l, 1) := by decide +kernel
set_option maxRecDepth 20000 in
theorem dX7_row_29 : decode cX7_row 29 = .ok (.invokestatic 51, 3) := by decide +kernel
set_option maxRecDepth 20000 in
theorem dX7_row_32 : decode cX7_row 32 = .ok (.ifCond .ne 5, 3) := by decide +kernel
set_option maxRecDepth 20000 in
theorem dX7_row_35 : decode cX7_row 35 = .ok (.iconst (-1), 1) := by decide +kernel
set_option maxRecDepth 20000 in
theorem dX7_row_36 : decode cX7_row 36 = .ok (.ireturn, 1) := by decide +kernel
set_option maxRecDepth 20000 in
theorem dX7_row_37 : decode cX7_row 37 = .ok (.aload_n 0, 1) := by decide +kernel
set_option maxRecDepth 20000 in
theorem dX7_row_38 : decode cX7_row 38 = .ok (.iload_n 1, 1) := by decide +kernel
set_option maxRecDepth 20000 in
theorem dX7_row_39 : decode cX7_row 39 = .ok (.iload_n 1, 1) := by decide +kernel
set_option maxRecDepth 20000 in
theorem dX7_row_40 : decode cX7_row 40 = .ok (.iconst (-1), 1) := by decide +kernel
set_option maxRecDepth 20000 in
theorem dX7_row_41 : decode cX7_row 41 = .ok (.if_icmp .ne 7, 3) := by decide +kernel
set_option maxRecDepth 20000 in
theorem dX7_row_44 : decode cX7_row 44 = .ok (.iconst 0, 1) := by decide +kernel
set_option maxRecDepth 20000 in
theorem dX7_row_45 : decode cX7_row 45 = .ok (.goto 4, 3) := by decide +kernel
set_option maxRecDepth 20000 in
theorem dX7_row_48 : decode cX7_row 48 = .ok (.iload_n 2, 1) := by decide +kernel
set_option maxRecDepth 20000 in
theorem dX7_row_49 : decode cX7_row 49 = .ok (.invokevirtual 152, 3) := by decide +kernel
set_option maxRecDepth 20000 in
theorem dX7_row_52 : decode cX7_row 52 = .ok (.lload_n 3, 1) := by decide +kernel
set_option maxRecDepth 20000 in
theorem dX7_row_53 : decode cX7_row 53 = .ok (.lstore 5, 2) := by decide +kernel
set_option maxRecDepth 20000 in
theorem dX7_row_55 : decode cX7_row 55 = .ok (.iconst 0, 1) := by decide +kernel
set_option maxRecDepth 20000 in
theorem dX7_row_56 : decode cX7_row 56 = .ok (.istore 7, 2) := by decide +kernel
set_option maxRecDepth 20000 in
theorem dX7_row_58 : decode cX7_row 58 = .ok (.iload 7, 2) := by decide +kernel
set_option maxRecDepth 20000 in
theorem dX7_row_60 : decode cX7_row 60 = .ok (.aload_n 0, 1) := by decide +kernel
set_option maxRecDepth 20000 in
theorem dX7_row_61 : decode cX7_row 61 = .ok (.getfield 7, 3) := by decide +kernel
set_option maxRecDepth 20000 in
theorem dX7_row_64 : decode cX7_row 64 = .ok (.if_icmp .ge 82, 3) := by decide +kernel
set_option maxRecDepth 20000 in
theorem dX7_row_67 : decode cX7_row 67 = .ok (.iconst 0, 1) := by decide +kernel
set_option maxRecDepth 20000 in
theorem dX7_row_68 : decode cX7_row 68 = .ok (.istore 8, 2) := by decide +kernel
set_option maxRecDepth 20000 in
theorem dX7_row_70 : decode cX7_row 70 = .ok (.iload 8, 2) := by decide +kernel
set_option maxRecDepth 20000 in
theorem dX7_row_72 : decode cX7_row 72 = .ok (.aload_n 0, 1) := by decide +kernel
set_option maxRecDepth 20000 in
theorem dX7_row_73 : decode cX7_row 73 = .ok (.getfield 7, 3) := by decide +kernel
set_option maxRecDepth 20000 in
theorem dX7_row_76 : decode cX7_row 76 = .ok (.iload 7, 2) := by decide +kernel
set_option maxRecDepth 20000 in
theorem dX7_row_78 : decode cX7_row 78 = .ok (.isub, 1) := by decide +kernel
set_option maxRecDepth 20000 in
theorem dX7_row_79 : decode cX7_row 79 = .ok (.if_icmp .ge 38, 3) := by decide +kernel
set_option maxRecDepth 20000 in
theorem dX7_row_82 : decode cX7_row 82 = .ok (.lload 5, 2) := by decide +kernel
set_option maxRecDepth 20000 in
theorem dX7_row_84 : decode cX7_row 84 = .ok (.aload_n 0, 1) := by decide +kernel
set_option maxRecDepth 20000 in
theorem dX7_row_85 : decode cX7_row 85 = .ok (.iload_n 1, 1) := by decide +kernel
set_option maxRecDepth 20000 in
theorem dX7_row_86 : decode cX7_row 86 = .ok (.iload 7, 2) := by decide +kernel
set_option maxRecDepth 20000 in
theorem dX7_row_88 : decode cX7_row 88 = .ok (.iload 8, 2) := by decide +kernel
set_option maxRecDepth 20000 in
theorem dX7_row_90 : decode cX7_row 90 = .ok (.invokevirtual 156, 3) := by decide +kernel
set_option maxRecDepth 20000 in
theorem dX7_row_93 : decode cX7_row 93 = .ok (.lcmp, 1) := by decide +kernel
set_option maxRecDepth 20000 in
theorem dX7_row_94 : decode cX7_row 94 = .ok (.ifCond .lt 23, 3) := by decide +kernel
set_option maxRecDepth 20000 in
theorem dX7_row_97 : decode cX7_row 97 = .ok (.lload 5, 2) := by decide +kernel
set_option maxRecDepth 20000 in
theorem dX7_row_99 : decode cX7_row 99 = .ok (.aload_n 0, 1) := by decide +kernel
set_option maxRecDepth 20000 in
theorem dX7_row_100 : decode cX7_row 100 = .ok (.iload_n 1, 1) := by decide +kernel
set_option maxRecDepth 20000 in
theorem dX7_row_101 : decode cX7_row 101 = .ok (.iload 7, 2) := by decide +kernel
set_option maxRecDepth 20000 in
theorem dX7_row_103 : decode cX7_row 103 = .ok (.iload 8, 2) := by decide +kernel
set_option maxRecDepth 20000 in
theorem dX7_row_105 : decode cX7_row 105 = .ok (.invokevirtual 156, 3) := by decide +kernel
set_option maxRecDepth 20000 in
theorem dX7_row_108 : decode cX7_row 108 = .ok (.lsub, 1) := by decide +kernel
set_option maxRecDepth 20000 in
theorem dX7_row_109 : decode cX7_row 109 = .ok (.lstore 5, 2) := by decide +kernel
set_option maxRecDepth 20000 in
theorem dX7_row_111 : decode cX7_row 111 = .ok (.iinc 8 1, 3) := by decide +kernel
set_option maxRecDepth 20000 in
theorem dX7_row_114 : decode cX7_row 114 = .ok (.goto (-44), 3) := by decide +kernel
set_option maxRecDepth 20000 in
theorem dX7_row_117 : decode cX7_row 117 = .ok (.iload 8, 2) := by decide +kernel
set_option maxRecDepth 20000 in
theorem dX7_row_119 : decode cX7_row 119 = .ok (.aload_n 0, 1) := by decide +kernel
set_option maxRecDepth 20000 in
theorem dX7_row_120 : decode cX7_row 120 = .ok (.getfield 7, 3) := by decide +kernel
set_option maxRecDepth 20000 in
theorem dX7_row_123 : decode cX7_row 123 = .ok (.iload 7, 2) := by decide +kernel
set_option maxRecDepth 20000 in
theorem dX7_row_125 : decode cX7_row 125 = .ok (.isub, 1) := by decide +kernel
set_option maxRecDepth 20000 in
theorem dX7_row_126 : decode cX7_row 126 = .ok (.if_icmp .ne 5, 3) := by decide +kernel
set_option maxRecDepth 20000 in
theorem dX7_row_129 : decode cX7_row 129 = .ok (.iconst (-1), 1) := by decide +kernel
set_option maxRecDepth 20000 in
theorem dX7_row_130 : decode cX7_row 130 = .ok (.ireturn, 1) := by decide +kernel
set_option maxRecDepth 20000 in
theorem dX7_row_131 : decode cX7_row 131 = .ok (.aload_n 0, 1) := by decide +kernel
set_option maxRecDepth 20000 in
theorem dX7_row_132 : decode cX7_row 132 = .ok (.iload_n 1, 1) := by decide +kernel
set_option maxRecDepth 20000 in
theorem dX7_row_133 : decode cX7_row 133 = .ok (.iload 7, 2) := by decide +kernel
set_option maxRecDepth 20000 in
theorem dX7_row_135 : decode cX7_row 135 = .ok (.iload 8, 2) := by decide +kernel
set_option maxRecDepth 20000 in
theorem dX7_row_137 : decode cX7_row 137 = .ok (.invokevirtual 160, 3) := by decide +kernel
set_option maxRecDepth 20000 in
theorem dX7_row_140 : decode cX7_row 140 = .ok (.iinc 7 1, 3) := by decide +kernel
set_option maxRecDepth 20000 in
theorem dX7_row_143 : decode cX7_row 143 = .ok (.goto (-85), 3) := by decide +kernel
set_option maxRecDepth 20000 in
theorem dX7_row_146 : decode cX7_row 146 = .ok (.aload_n 0, 1) := by decide +kernel
set_option maxRecDepth 20000 in
theorem dX7_row_147 : decode cX7_row 147 = .ok (.invokevirtual 57, 3) := by decide +kernel
set_option maxRecDepth 20000 in
theorem dX7_row_150 : decode cX7_row 150 = .ok (.iconst 1, 1) := by decide +kernel
set_option maxRecDepth 20000 in
theorem dX7_row_151 : decode cX7_row 151 = .ok (.ireturn, 1) := by decide +kernel
set_option maxRecDepth 20000 in
theorem dX7_place_0 : decode cX7_place 0 = .ok (.iload_n 1, 1) := by decide +kernel
set_option maxRecDepth 20000 in
theorem dX7_place_1 : decode cX7_place 1 = .ok (.invokestatic 149, 3) := by decide +kernel
set_option maxRecDepth 20000 in
theorem dX7_place_4 : decode cX7_place 4 = .ok (.ifCond .ne 7, 3) := by decide +kernel
set_option maxRecDepth 20000 in
theorem dX7_place_7 : decode cX7_place 7 = .ok (.ldc2_w 122, 3) := by decide +kernel
set_option maxRecDepth 20000 in
theorem dX7_place_10 : decode cX7_place 10 = .ok (.lreturn, 1) := by decide +kernel
set_option maxRecDepth 20000 in
theorem dX7_place_11 : decode cX7_place 11 = .ok (.aload_n 0, 1) := by decide +kernel
set_option maxRecDepth 20000 in
theorem dX7_place_12 : decode cX7_place 12 = .ok (.iload_n 1, 1) := by decide +kernel
set_option maxRecDepth 20000 in
theorem dX7_place_13 : decode cX7_place 13 = .ok (.iload_n 1, 1) := by decide +kernel
set_option maxRecDepth 20000 in
theorem dX7_place_14 : decode cX7_place 14 = .ok (.iconst (-1), 1) := by decide +kernel
set_option maxRecDepth 20000 in
theorem dX7_place_15 : decode cX7_place 15 = .ok (.if_icmp .ne 7, 3) := by decide +kernel
set_option maxRecDepth 20000 in
theorem dX7_place_18 : decode cX7_place 18 = .ok (.iconst 0, 1) := by decide +kernel
set_option maxRecDepth 20000 in
theorem dX7_place_19 : decode cX7_place 19 = .ok (.goto 8, 3) := by decide +kernel
set_option maxRecDepth 20000 in
theorem dX7_place_22 : decode cX7_place 22 = .ok (.aload_n 0, 1) := by decide +kernel
set_option maxRecDepth 20000 in
theorem dX7_place_23 : decode cX7_place 23 = .ok (.iload_n 1, 1) := by decide +kernel
set_option maxRecDepth 20000 in
theorem dX7_place_24 : decode cX7_place 24 = .ok (.invokevirtual 89, 3) := by decide +kernel
set_option maxRecDepth 20000 in
theorem dX7_place_27 : decode cX7_place 27 = .ok (.invokevirtual 152, 3) := by decide +kernel
set_option maxRecDepth 20000 in
theorem dX7_place_30 : decode cX7_place 30 = .ok (.lconst 0, 1) := by decide +kernel
set_option maxRecDepth 20000 in
theorem dX7_place_31 : decode cX7_place 31 = .ok (.lstore_n 2, 1) := by decide +kernel
set_option maxRecDepth 20000 in
theorem dX7_place_32 : decode cX7_place 32 = .ok (.iconst 0, 1) := by decide +kernel
set_option maxRecDepth 20000 in
theorem dX7_place_33 : decode cX7_place 33 = .ok (.istore 4, 2) := by decide +kernel
set_option maxRecDepth 20000 in
theorem dX7_place_35 : decode cX7_place 35 = .ok (.iload 4, 2) := by decide +kernel
set_option maxRecDepth 20000 in
theorem dX7_place_37 : decode cX7_place 37 = .ok (.aload_n 0, 1) := by decide +kernel
set_option maxRecDepth 20000 in
theorem dX7_place_38 : decode cX7_place 38 = .ok (.getfield 7, 3) := by decide +kernel
set_option maxRecDepth 20000 in
theorem dX7_place_41 : decode cX7_place 41 = .ok (.if_icmp .ge 92, 3) := by decide +kernel
set_option maxRecDepth 20000 in
theorem dX7_place_44 : decode cX7_place 44 = .ok (.iconst 0, 1) := by decide +kernel
set_option maxRecDepth 20000 in
theorem dX7_place_45 : decode cX7_place 45 = .ok (.istore 5, 2) := by decide +kernel
set_option maxRecDepth 20000 in
theorem dX7_place_47 : decode cX7_place 47 = .ok (.iconst 0, 1) := by decide +kernel
set_option maxRecDepth 20000 in
theorem dX7_place_48 : decode cX7_place 48 = .ok (.istore 6, 2) := by decide +kernel
set_option maxRecDepth 20000 in
theorem dX7_place_50 : decode cX7_place 50 = .ok (.iload 6, 2) := by decide +kernel
set_option maxRecDepth 20000 in
theorem dX7_place_52 : decode cX7_place 52 = .ok (.aload_n 0, 1) := by decide +kernel
set_option maxRecDepth 20000 in
theorem dX7_place_53 : decode cX7_place 53 = .ok (.getfield 13, 3) := by decide +kernel
set_option maxRecDepth 20000 in
theorem dX7_place_56 : decode cX7_place 56 = .ok (.iload 4, 2) := by decide +kernel
set_option maxRecDepth 20000 in
theorem dX7_place_58 : decode cX7_place 58 = .ok (.iaload, 1) := by decide +kernel
set_option maxRecDepth 20000 in
theorem dX7_place_59 : decode cX7_place 59 = .ok (.if_icmp .ge 31, 3) := by decide +kernel
set_option maxRecDepth 20000 in
theorem dX7_place_62 : decode cX7_place 62 = .ok (.iload 5, 2) := by decide +kernel
set_option maxRecDepth 20000 in
theorem dX7_place_64 : decode cX7_place 64 = .ok (.aload_n 0, 1) := by decide +kernel
set_option maxRecDepth 20000 in
theorem dX7_place_65 : decode cX7_place 65 = .ok (.getfield 143, 3) := by decide +kernel
set_option maxRecDepth 20000 in
theorem dX7_place_68 : decode cX7_place 68 = .ok (.iload 6, 2) := by decide +kernel
set_option maxRecDepth 20000 in
theorem dX7_place_70 : decode cX7_place 70 = .ok (.ishr, 1) := by decide +kernel
set_option maxRecDepth 20000 in
theorem dX7_place_71 : decode cX7_place 71 = .ok (.iconst 1, 1) := by decide +kernel
set_option maxRecDepth 20000 in
theorem dX7_place_72 : decode cX7_place 72 = .ok (.iand, 1) := by decide +kernel
set_option maxRecDepth 20000 in
theorem dX7_place_73 : decode cX7_place 73 = .ok (.ifCond .ne 7, 3) := by decide +kernel
set_option maxRecDepth 20000 in
theorem dX7_place_76 : decode cX7_place 76 = .ok (.iconst 1, 1) := by decide +kernel
set_option maxRecDepth 20000 in
theorem dX7_place_77 : decode cX7_place 77 = .ok (.goto 4, 3) := by decide +kernel
set_option maxRecDepth 20000 in
theorem dX7_place_80 : decode cX7_place 80 = .ok (.iconst 0, 1) := by decide +kernel
set_option maxRecDepth 20000 in
theorem dX7_place_81 : decode cX7_place 81 = .ok (.iadd, 1) := by decide +kernel
set_option maxRecDepth 20000 in
theorem dX7_place_82 : decode cX7_place 82 = .ok (.istore 5, 2) := by decide +kernel
set_option maxRecDepth 20000 in
theorem dX7_place_84 : decode cX7_place 84 = .ok (.iinc 6 1, 3) := by decide +kernel
set_option maxRecDepth 20000 in
theorem dX7_place_87 : decode cX7_place 87 = .ok (.goto (-37), 3) := by decide +kernel
set_option maxRecDepth 20000 in
theorem dX7_place_90 : decode cX7_place 90 = .ok (.iconst 0, 1) := by decide +kernel
set_option maxRecDepth 20000 in
theorem dX7_place_91 : decode cX7_place 91 = .ok (.istore 6, 2) := by decide +kernel
set_option maxRecDepth 20000 in
theorem dX7_place_93 : decode cX7_place 93 = .ok (.iload 6, 2) := by decide +kernel
set_option maxRecDepth 20000 in
theorem dX7_place_95 : decode cX7_place 95 = .ok (.iload 5, 2) := by decide +kernel
set_option maxRecDepth 20000 in
theorem dX7_place_97 : decode cX7_place 97 = .ok (.if_icmp .ge 21, 3) := by decide +kernel
set_option maxRecDepth 20000 in
theorem dX7_place_100 : decode cX7_place 100 = .ok (.lload_n 2, 1) := by decide +kernel
set_option maxRecDepth 20000 in
theorem dX7_place_101 : decode cX7_place 101 = .ok (.aload_n 0, 1) := by decide +kernel
set_option maxRecDepth 20000 in
theorem dX7_place_102 : decode cX7_place 102 = .ok (.iload_n 1, 1) := by decide +kernel
set_option maxRecDepth 20000 in
theorem dX7_place_103 : decode cX7_place 103 = .ok (.iload 4, 2) := by decide +kernel
set_option maxRecDepth 20000 in
theorem dX7_place_105 : decode cX7_place 105 = .ok (.iload 6, 2) := by decide +kernel
set_option maxRecDepth 20000 in
theorem dX7_place_107 : decode cX7_place 107 = .ok (.invokevirtual 156, 3) := by decide +kernel
set_option maxRecDepth 20000 in
theorem dX7_place_110 : decode cX7_place 110 = .ok (.ladd, 1) := by decide +kernel
set_option maxRecDepth 20000 in
theorem dX7_place_111 : decode cX7_place 111 = .ok (.lstore_n 2, 1) := by decide +kernel
set_option maxRecDepth 20000 in
theorem dX7_place_112 : decode cX7_place 112 = .ok (.iinc 6 1, 3) := by decide +kernel
set_option maxRecDepth 20000 in
theorem dX7_place_115 : decode cX7_place 115 = .ok (.goto (-22), 3) := by decide +kernel
set_option maxRecDepth 20000 in
theorem dX7_place_118 : decode cX7_place 118 = .ok (.aload_n 0, 1) := by decide +kernel
set_option maxRecDepth 20000 in
theorem dX7_place_119 : decode cX7_place 119 = .ok (.iload_n 1, 1) := by decide +kernel
set_option maxRecDepth 20000 in
theorem dX7_place_120 : decode cX7_place 120 = .ok (.iload 4, 2) := by decide +kernel
set_option maxRecDepth 20000 in
theorem dX7_place_122 : decode cX7_place 122 = .ok (.iload 5, 2) := by decide +kernel
set_option maxRecDepth 20000 in
theorem dX7_place_124 : decode cX7_place 124 = .ok (.invokevirtual 160, 3) := by decide +kernel
set_option maxRecDepth 20000 in
theorem dX7_place_127 : decode cX7_place 127 = .ok (.iinc 4 1, 3) := by decide +kernel
set_option maxRecDepth 20000 in
theorem dX7_place_130 : decode cX7_place 130 = .ok (.goto (-95), 3) := by decide +kernel
set_option maxRecDepth 20000 in
theorem dX7_place_133 : decode cX7_place 133 = .ok (.lload_n 2, 1) := by decide +kernel
set_option maxRecDepth 20000 in
theorem dX7_place_134 : decode cX7_place 134 = .ok (.lreturn, 1) := by decide +kernel
set_option maxRecDepth 20000 in
theorem dX7_toRounds_0 : decode cX7_toRounds 0 = .ok (.iconst 0, 1) := by decide +kernel
set_option maxRecDepth 20000 in
theorem dX7_toRounds_1 : decode cX7_toRounds 1 = .ok (.istore_n 1, 1) := by decide +kernel
set_option maxRecDepth 20000 in
theorem dX7_toRounds_2 : decode cX7_toRounds 2 = .ok (.iconst 0, 1) := by decide +kernel
set_option maxRecDepth 20000 in
theorem dX7_toRounds_3 : decode cX7_toRounds 3 = .ok (.istore_n 2, 1) := by decide +kernel
set_option maxRecDepth 20000 in
theorem dX7_toRounds_4 : decode cX7_toRounds 4 = .ok (.iload_n 2, 1) := by decide +kernel
set_option maxRecDepth 20000 in
theorem dX7_toRounds_5 : decode cX7_toRounds 5 = .ok (.aload_n 0, 1) := by decide +kernel
set_option maxRecDepth 20000 in
theorem dX7_toRounds_6 : decode cX7_toRounds 6 = .ok (.getfield 7, 3) := by decide +kernel
set_option maxRecDepth 20000 in
theorem dX7_toRounds_9 : decode cX7_toRounds 9 = .ok (.if_icmp .ge 81, 3) := by decide +kernel
set_option maxRecDepth 20000 in
theorem dX7_toRounds_12 : decode cX7_toRounds 12 = .ok (.aload_n 0, 1) := by decide +kernel
set_option maxRecDepth 20000 in
theorem dX7_toRounds_13 : decode cX7_toRounds 13 = .ok (.iload_n 2, 1) := by decide +kernel
set_option maxRecDepth 20000 in
theorem dX7_toRounds_14 : decode cX7_toRounds 14 = .ok (.invokevirtual 77, 3) := by decide +kernel
set_option maxRecDepth 20000 in
theorem dX7_toRounds_17 : decode cX7_toRounds 17 = .ok (.ifCond .eq 12, 3) := by decide +kernel
set_option maxRecDepth 20000 in
theorem dX7_toRounds_20 : decode cX7_toRounds 20 = .ok (.aload_n 0, 1) := by decide +kernel
set_option maxRecDepth 20000 in
theorem dX7_toRounds_21 : decode cX7_toRounds 21 = .ok (.getfield 13, 3) := by decide +kernel
set_option maxRecDepth 20000 in
theorem dX7_toRounds_24 : decode cX7_toRounds 24 = .ok (.iload_n 2, 1) := by decide +kernel
set_option maxRecDepth 20000 in
theorem dX7_toRounds_25 : decode cX7_toRounds 25 = .ok (.iaload, 1) := by decide +kernel
set_option maxRecDepth 20000 in
theorem dX7_toRounds_26 : decode cX7_toRounds 26 = .ok (.goto 4, 3) := by decide +kernel
set_option maxRecDepth 20000 in
theorem dX7_toRounds_29 : decode cX7_toRounds 29 = .ok (.iload_n 1, 1) := by decide +kernel
set_option maxRecDepth 20000 in
theorem dX7_toRounds_30 : decode cX7_toRounds 30 = .ok (.istore_n 1, 1) := by decide +kernel
set_option maxRecDepth 20000 in
theorem dX7_toRounds_31 : decode cX7_toRounds 31 = .ok (.iload_n 2, 1) := by decide +kernel
set_option maxRecDepth 20000 in
theorem dX7_toRounds_32 : decode cX7_toRounds 32 = .ok (.aload_n 0, 1) := by decide +kernel
set_option maxRecDepth 20000 in
theorem dX7_toRounds_33 : decode cX7_toRounds 33 = .ok (.getfield 7, 3) := by decide +kernel
set_option maxRecDepth 20000 in
theorem dX7_toRounds_36 : decode cX7_toRounds 36 = .ok (.iconst 1, 1) := by decide +kernel
set_option maxRecDepth 20000 in
theorem dX7_toRounds_37 : decode cX7_toRounds 37 = .ok (.isub, 1) := by decide +kernel
set_option maxRecDepth 20000 in
theorem dX7_toRounds_38 : decode cX7_toRounds 38 = .ok (.if_icmp .eq 13, 3) := by decide +kernel
set_option maxRecDepth 20000 in
theorem dX7_toRounds_41 : decode cX7_toRounds 41 = .ok (.aload_n 0, 1) := by decide +kernel
set_option maxRecDepth 20000 in
theorem dX7_toRounds_42 : decode cX7_toRounds 42 = .ok (.iload_n 2, 1) := by decide +kernel
set_option maxRecDepth 20000 in
theorem dX7_toRounds_43 : decode cX7_toRounds 43 = .ok (.iconst 1, 1) := by decide +kernel
set_option maxRecDepth 20000 in
theorem dX7_toRounds_44 : decode cX7_toRounds 44 = .ok (.iadd, 1) := by decide +kernel
set_option maxRecDepth 20000 in
theorem dX7_toRounds_45 : decode cX7_toRounds 45 = .ok (.invokevirtual 77, 3) := by decide +kernel
set_option maxRecDepth 20000 in
theorem dX7_toRounds_48 : decode cX7_toRounds 48 = .ok (.ifCond .eq 7, 3) := by decide +kernel
set_option maxRecDepth 20000 in
theorem dX7_toRounds_51 : decode cX7_toRounds 51 = .ok (.iconst 1, 1) := by decide +kernel
set_option maxRecDepth 20000 in
theorem dX7_toRounds_52 : decode cX7_toRounds 52 = .ok (.goto 4, 3) := by decide +kernel
set_option maxRecDepth 20000 in
theorem dX7_toRounds_55 : decode cX7_toRounds 55 = .ok (.iconst 0, 1) := by decide +kernel
set_option maxRecDepth 20000 in
theorem dX7_toRounds_56 : decode cX7_toRounds 56 = .ok (.istore_n 3, 1) := by decide +kernel
set_option maxRecDepth 20000 in
theorem dX7_toRounds_57 : decode cX7_toRounds 57 = .ok (.aload_n 0, 1) := by decide +kernel
set_option maxRecDepth 20000 in
theorem dX7_toRounds_58 : decode cX7_toRounds 58 = .ok (.getfield 29, 3) := by decide +kernel
set_option maxRecDepth 20000 in
theorem dX7_toRounds_61 : decode cX7_toRounds 61 = .ok (.aload_n 0, 1) := by decide +kernel
set_option maxRecDepth 20000 in
theorem dX7_toRounds_62 : decode cX7_toRounds 62 = .ok (.getfield 13, 3) := by decide +kernel
set_option maxRecDepth 20000 in
theorem dX7_toRounds_65 : decode cX7_toRounds 65 = .ok (.iload_n 2, 1) := by decide +kernel
set_option maxRecDepth 20000 in
theorem dX7_toRounds_66 : decode cX7_toRounds 66 = .ok (.iaload, 1) := by decide +kernel
set_option maxRecDepth 20000 in
theorem dX7_toRounds_67 : decode cX7_toRounds 67 = .ok (.iload_n 3, 1) := by decide +kernel
set_option maxRecDepth 20000 in
theorem dX7_toRounds_68 : decode cX7_toRounds 68 = .ok (.ifCond .eq 7, 3) := by decide +kernel
set_option maxRecDepth 20000 in
theorem dX7_toRounds_71 : decode cX7_toRounds 71 = .ok (.iload_n 1, 1) := by decide +kernel
set_option maxRecDepth 20000 in
theorem dX7_toRounds_72 : decode cX7_toRounds 72 = .ok (.goto 11, 3) := by decide +kernel
set_option maxRecDepth 20000 in
theorem dX7_toRounds_75 : decode cX7_toRounds 75 = .ok (.aload_n 0, 1) := by decide +kernel
set_option maxRecDepth 20000 in
theorem dX7_toRounds_76 : decode cX7_toRounds 76 = .ok (.getfield 13, 3) := by decide +kernel
set_option maxRecDepth 20000 in
theorem dX7_toRounds_79 : decode cX7_toRounds 79 = .ok (.iload_n 2, 1) := by decide +kernel
set_option maxRecDepth 20000 in
theorem dX7_toRounds_80 : decode cX7_toRounds 80 = .ok (.iconst 1, 1) := by decide +kernel
set_option maxRecDepth 20000 in
theorem dX7_toRounds_81 : decode cX7_toRounds 81 = .ok (.iadd, 1) := by decide +kernel
set_option maxRecDepth 20000 in
theorem dX7_toRounds_82 : decode cX7_toRounds 82 = .ok (.iaload, 1) := by decide +kernel
set_option maxRecDepth 20000 in
theorem dX7_toRounds_83 : decode cX7_toRounds 83 = .ok (.iastore, 1) := by decide +kernel
set_option maxRecDepth 20000 in
theorem dX7_toRounds_84 : decode cX7_toRounds 84 = .ok (.iinc 2 1, 3) := by decide +kernel
set_option maxRecDepth 20000 in
theorem dX7_toRounds_87 : decode cX7_toRounds 87 = .ok (.goto (-83), 3) := by decide +kernel
set_option maxRecDepth 20000 in
theorem dX7_toRounds_90 : decode cX7_toRounds 90 = .ok (.aload_n 0, 1) := by decide +kernel
set_option maxRecDepth 20000 in
theorem dX7_toRounds_91 : decode cX7_toRounds 91 = .ok (.invokevirtual 57, 3) := by decide +kernel
set_option maxRecDepth 20000 in
theorem dX7_toRounds_94 : decode cX7_toRounds 94 = .ok (.iconst 1, 1) := by decide +kernel
set_option maxRecDepth 20000 in
theorem dX7_toRounds_95 : decode cX7_toRounds 95 = .ok (.ireturn, 1) := by decide +kernel
set_option maxRecDepth 20000 in
theorem dX7_isGreatest_0 : decode cX7_isGreatest 0 = .ok (.iconst 1, 1) := by decide +kernel
set_option maxRecDepth 20000 in
theorem dX7_isGreatest_1 : decode cX7_isGreatest 1 = .ok (.istore_n 2, 1) := by decide +kernel
set_option maxRecDepth 20000 in
theorem dX7_isGreatest_2 : decode cX7_isGreatest 2 = .ok (.aload_n 0, 1) := by decide +kernel
set_option maxRecDepth 20000 in
theorem dX7_isGreatest_3 : decode cX7_isGreatest 3 = .ok (.getfield 13, 3) := by decide +kernel
set_option maxRecDepth 20000 in
theorem dX7_isGreatest_6 : decode cX7_isGreatest 6 = .ok (.iload_n 1, 1) := by decide +kernel
set_option maxRecDepth 20000 in
theorem dX7_isGreatest_7 : decode cX7_isGreatest 7 = .ok (.iaload, 1) := by decide +kernel
set_option maxRecDepth 20000 in
theorem dX7_isGreatest_8 : decode cX7_isGreatest 8 = .ok (.istore_n 3, 1) := by decide +kernel
set_option maxRecDepth 20000 in
theorem dX7_isGreatest_9 : decode cX7_isGreatest 9 = .ok (.iload_n 3, 1) := by decide +kernel
set_option maxRecDepth 20000 in
theorem dX7_isGreatest_10 : decode cX7_isGreatest 10 = .ok (.iload_n 1, 1) := by decide +kernel
set_option maxRecDepth 20000 in
theorem dX7_isGreatest_11 : decode cX7_isGreatest 11 = .ok (.if_icmp .eq 28, 3) := by decide +kernel
set_option maxRecDepth 20000 in
theorem dX7_isGreatest_14 : decode cX7_isGreatest 14 = .ok (.iload_n 2, 1) := by decide +kernel
set_option maxRecDepth 20000 in
theorem dX7_isGreatest_15 : decode cX7_isGreatest 15 = .ok (.ifCond .eq 12, 3) := by decide +kernel
set_option maxRecDepth 20000 in
theorem dX7_isGreatest_18 : decode cX7_isGreatest 18 = .ok (.iload_n 3, 1) := by decide +kernel
set_option maxRecDepth 20000 in
theorem dX7_isGreatest_19 : decode cX7_isGreatest 19 = .ok (.iload_n 1, 1) := by decide +kernel
set_option maxRecDepth 20000 in
theorem dX7_isGreatest_20 : decode cX7_isGreatest 20 = .ok (.if_icmp .ge 7, 3) := by decide +kernel
set_option maxRecDepth 20000 in
theorem dX7_isGreatest_23 : decode cX7_isGreatest 23 = .ok (.iconst 1, 1) := by decide +kernel
set_option maxRecDepth 20000 in
theorem dX7_isGreatest_24 : decode cX7_isGreatest 24 = .ok (.goto 4, 3) := by decide +kernel
set_option maxRecDepth 20000 in
theorem dX7_isGreatest_27 : decode cX7_isGreatest 27 = .ok (.iconst 0, 1) := by decide +kernel
set_option maxRecDepth 20000 in
theorem dX7_isGreatest_28 : decode cX7_isGreatest 28 = .ok (.istore_n 2, 1) := by decide +kernel
set_option maxRecDepth 20000 in
theorem dX7_isGreatest_29 : decode cX7_isGreatest 29 = .ok (.aload_n 0, 1) := by decide +kernel
set_option maxRecDepth 20000 in
theorem dX7_isGreatest_30 : decode cX7_isGreatest 30 = .ok (.getfield 13, 3) := by decide +kernel
set_option maxRecDepth 20000 in
theorem dX7_isGreatest_33 : decode cX7_isGreatest 33 = .ok (.iload_n 3, 1) := by decide +kernel
set_option maxRecDepth 20000 in
theorem dX7_isGreatest_34 : decode cX7_isGreatest 34 = .ok (.iaload, 1) := by decide +kernel
set_option maxRecDepth 20000 in
theorem dX7_isGreatest_35 : decode cX7_isGreatest 35 = .ok (.istore_n 3, 1) := by decide +kernel
set_option maxRecDepth 20000 in
theorem dX7_isGreatest_36 : decode cX7_isGreatest 36 = .ok (.goto (-27), 3) := by decide +kernel
set_option maxRecDepth 20000 in
theorem dX7_isGreatest_39 : decode cX7_isGreatest 39 = .ok (.iload_n 2, 1) := by decide +kernel
set_option maxRecDepth 20000 in
theorem dX7_isGreatest_40 : decode cX7_isGreatest 40 = .ok (.ireturn, 1) := by decide +kernel
set_option maxRecDepth 20000 in
theorem dX7_toRecords_0 : decode cX7_toRecords 0 = .ok (.iconst 0, 1) := by decide +kernel
set_option maxRecDepth 20000 in
theorem dX7_toRecords_1 : decode cX7_toRecords 1 = .ok (.istore_n 1, 1) := by decide +kernel
set_option maxRecDepth 20000 in
theorem dX7_toRecords_2 : decode cX7_toRecords 2 = .ok (.iconst 0, 1) := by decide +kernel
set_option maxRecDepth 20000 in
theorem dX7_toRecords_3 : decode cX7_toRecords 3 = .ok (.istore_n 2, 1) := by decide +kernel
set_option maxRecDepth 20000 in
theorem dX7_toRecords_4 : decode cX7_toRecords 4 = .ok (.iload_n 2, 1) := by decide +kernel
set_option maxRecDepth 20000 in
theorem dX7_toRecords_5 : decode cX7_toRecords 5 = .ok (.aload_n 0, 1) := by decide +kernel
set_option maxRecDepth 20000 in
theorem dX7_toRecords_6 : decode cX7_toRecords 6 = .ok (.getfield 7, 3) := by decide +kernel
set_option maxRecDepth 20000 in
theorem dX7_toRecords_9 : decode cX7_toRecords 9 = .ok (.if_icmp .ge 59, 3) := by decide +kernel
set_option maxRecDepth 20000 in
theorem dX7_toRecords_12 : decode cX7_toRecords 12 = .ok (.aload_n 0, 1) := by decide +kernel
set_option maxRecDepth 20000 in
theorem dX7_toRecords_13 : decode cX7_toRecords 13 = .ok (.iload_n 2, 1) := by decide +kernel
set_option maxRecDepth 20000 in
theorem dX7_toRecords_14 : decode cX7_toRecords 14 = .ok (.invokevirtual 164, 3) := by decide +kernel
set_option maxRecDepth 20000 in
theorem dX7_toRecords_17 : decode cX7_toRecords 17 = .ok (.ifCond .eq 45, 3) := by decide +kernel
set_option maxRecDepth 20000 in
theorem dX7_toRecords_20 : decode cX7_toRecords 20 = .ok (.iload_n 2, 1) := by decide +kernel
set_option maxRecDepth 20000 in
theorem dX7_toRecords_21 : decode cX7_toRecords 21 = .ok (.istore_n 3, 1) := by decide +kernel
set_option maxRecDepth 20000 in
theorem dX7_toRecords_22 : decode cX7_toRecords 22 = .ok (.aload_n 0, 1) := by decide +kernel
set_option maxRecDepth 20000 in
theorem dX7_toRecords_23 : decode cX7_toRecords 23 = .ok (.iload_n 2, 1) := by decide +kernel
set_option maxRecDepth 20000 in
theorem dX7_toRecords_24 : decode cX7_toRecords 24 = .ok (.invokevirtual 66, 3) := by decide +kernel
set_option maxRecDepth 20000 in
theorem dX7_toRecords_27 : decode cX7_toRecords 27 = .ok (.istore 4, 2) := by decide +kernel
set_option maxRecDepth 20000 in
theorem dX7_toRecords_29 : decode cX7_toRecords 29 = .ok (.iconst 0, 1) := by decide +kernel
set_option maxRecDepth 20000 in
theorem dX7_toRecords_30 : decode cX7_toRecords 30 = .ok (.istore 5, 2) := by decide +kernel
set_option maxRecDepth 20000 in
theorem dX7_toRecords_32 : decode cX7_toRecords 32 = .ok (.iload 5, 2) := by decide +kernel
set_option maxRecDepth 20000 in
theorem dX7_toRecords_34 : decode cX7_toRecords 34 = .ok (.iload 4, 2) := by decide +kernel
set_option maxRecDepth 20000 in
theorem dX7_toRecords_36 : decode cX7_toRecords 36 = .ok (.if_icmp .ge 26, 3) := by decide +kernel
set_option maxRecDepth 20000 in
theorem dX7_toRecords_39 : decode cX7_toRecords 39 = .ok (.aload_n 0, 1) := by decide +kernel
set_option maxRecDepth 20000 in
theorem dX7_toRecords_40 : decode cX7_toRecords 40 = .ok (.getfield 29, 3) := by decide +kernel
set_option maxRecDepth 20000 in
theorem dX7_toRecords_43 : decode cX7_toRecords 43 = .ok (.iload_n 1, 1) := by decide +kernel
set_option maxRecDepth 20000 in
theorem dX7_toRecords_44 : decode cX7_toRecords 44 = .ok (.iload_n 3, 1) := by decide +kernel
set_option maxRecDepth 20000 in
theorem dX7_toRecords_45 : decode cX7_toRecords 45 = .ok (.iastore, 1) := by decide +kernel
set_option maxRecDepth 20000 in
theorem dX7_toRecords_46 : decode cX7_toRecords 46 = .ok (.iinc 1 1, 3) := by decide +kernel
set_option maxRecDepth 20000 in
theorem dX7_toRecords_49 : decode cX7_toRecords 49 = .ok (.aload_n 0, 1) := by decide +kernel
set_option maxRecDepth 20000 in
theorem dX7_toRecords_50 : decode cX7_toRecords 50 = .ok (.getfield 13, 3) := by decide +kernel
set_option maxRecDepth 20000 in
theorem dX7_toRecords_53 : decode cX7_toRecords 53 = .ok (.iload_n 3, 1) := by decide +kernel
set_option maxRecDepth 20000 in
theorem dX7_toRecords_54 : decode cX7_toRecords 54 = .ok (.iaload, 1) := by decide +kernel
set_option maxRecDepth 20000 in
theorem dX7_toRecords_55 : decode cX7_toRecords 55 = .ok (.istore_n 3, 1) := by decide +kernel
set_option maxRecDepth 20000 in
theorem dX7_toRecords_56 : decode cX7_toRecords 56 = .ok (.iinc 5 1, 3) := by decide +kernel
set_option maxRecDepth 20000 in
theorem dX7_toRecords_59 : decode cX7_toRecords 59 = .ok (.goto (-27), 3) := by decide +kernel
set_option maxRecDepth 20000 in
theorem dX7_toRecords_62 : decode cX7_toRecords 62 = .ok (.iinc 2 1, 3) := by decide +kernel
set_option maxRecDepth 20000 in
theorem dX7_toRecords_65 : decode cX7_toRecords 65 = .ok (.goto (-61), 3) := by decide +kernel
set_option maxRecDepth 20000 in
theorem dX7_toRecords_68 : decode cX7_toRecords 68 = .ok (.aload_n 0, 1) := by decide +kernel
set_option maxRecDepth 20000 in
theorem dX7_toRecords_69 : decode cX7_toRecords 69 = .ok (.invokevirtual 57, 3) := by decide +kernel
set_option maxRecDepth 20000 in
theorem dX7_toRecords_72 : decode cX7_toRecords 72 = .ok (.iconst 1, 1) := by decide +kernel
set_option maxRecDepth 20000 in
theorem dX7_toRecords_73 : decode cX7_toRecords 73 = .ok (.ireturn, 1) := by decide +kernel
set_option maxRecDepth 20000 in
theorem dX7_opens_0 : decode cX7_opens 0 = .ok (.iload_n 1, 1) := by decide +kernel
set_option maxRecDepth 20000 in
theorem dX7_opens_1 : decode cX7_opens 1 = .ok (.i2l, 1) := by decide +kernel
set_option maxRecDepth 20000 in
theorem dX7_opens_2 : decode cX7_opens 2 = .ok (.lconst 1, 1) := by decide +kernel
set_option maxRecDepth 20000 in
theorem dX7_opens_3 : decode cX7_opens 3 = .ok (.aload_n 0, 1) := by decide +kernel
set_option maxRecDepth 20000 in
theorem dX7_opens_4 : decode cX7_opens 4 = .ok (.getfield 7, 3) := by decide +kernel
set_option maxRecDepth 20000 in
theorem dX7_opens_7 : decode cX7_opens 7 = .ok (.i2l, 1) := by decide +kernel
set_option maxRecDepth 20000 in
theorem dX7_opens_8 : decode cX7_opens 8 = .ok (.invokestatic 51, 3) := by decide +kernel
set_option maxRecDepth 20000 in
theorem dX7_opens_11 : decode cX7_opens 11 = .ok (.ifCond .ne 6, 3) := by decide +kernel
set_option maxRecDepth 20000 in
theorem dX7_opens_14 : decode cX7_opens 14 = .ok (.bipush (-2), 2) := by decide +kernel
set_option maxRecDepth 20000 in
theorem dX7_opens_16 : decode cX7_opens 16 = .ok (.ireturn, 1) := by decide +kernel
set_option maxRecDepth 20000 in
theorem dX7_opens_17 : decode cX7_opens 17 = .ok (.aload_n 0, 1) := by decide +kernel
set_option maxRecDepth 20000 in
theorem dX7_opens_18 : decode cX7_opens 18 = .ok (.getfield 20, 3) := by decide +kernel
set_option maxRecDepth 20000 in
theorem dX7_opens_21 : decode cX7_opens 21 = .ok (.istore_n 2, 1) := by decide +kernel
set_option maxRecDepth 20000 in
theorem dX7_opens_22 : decode cX7_opens 22 = .ok (.aload_n 0, 1) := by decide +kernel
set_option maxRecDepth 20000 in
theorem dX7_opens_23 : decode cX7_opens 23 = .ok (.iload_n 1, 1) := by decide +kernel
set_option maxRecDepth 20000 in
theorem dX7_opens_24 : decode cX7_opens 24 = .ok (.putfield 20, 3) := by decide +kernel
set_option maxRecDepth 20000 in
theorem dX7_opens_27 : decode cX7_opens 27 = .ok (.iload_n 2, 1) := by decide +kernel
set_option maxRecDepth 20000 in
theorem dX7_opens_28 : decode cX7_opens 28 = .ok (.ireturn, 1) := by decide +kernel
set_option maxRecDepth 20000 in
theorem dX7_list_0 : decode cX7_list 0 = .ok (.aload_n 0, 1) := by decide +kernel
set_option maxRecDepth 20000 in
theorem dX7_list_1 : decode cX7_list 1 = .ok (.iload_n 1, 1) := by decide +kernel
set_option maxRecDepth 20000 in
theorem dX7_list_2 : decode cX7_list 2 = .ok (.invokevirtual 60, 3) := by decide +kernel
set_option maxRecDepth 20000 in
theorem dX7_list_5 : decode cX7_list 5 = .ok (.ifCond .eq 11, 3) := by decide +kernel
set_option maxRecDepth 20000 in
theorem dX7_list_8 : decode cX7_list 8 = .ok (.aload_n 0, 1) := by decide +kernel
set_option maxRecDepth 20000 in
theorem dX7_list_9 : decode cX7_list 9 = .ok (.iload_n 2, 1) := by decide +kernel
set_option maxRecDepth 20000 in
theorem dX7_list_10 : decode cX7_list 10 = .ok (.invokevirtual 60, 3) := by decide +kernel
set_option maxRecDepth 20000 in
theorem dX7_list_13 : decode cX7_list 13 = .ok (.ifCond .ne 6, 3) := by decide +kernel
set_option maxRecDepth 20000 in
theorem dX7_list_16 : decode cX7_list 16 = .ok (.bipush (-2), 2) := by decide +kernel
set_option maxRecDepth 20000 in
theorem dX7_list_18 : decode cX7_list 18 = .ok (.ireturn, 1) := by decide +kernel
set_option maxRecDepth 20000 in
theorem dX7_list_19 : decode cX7_list 19 = .ok (.iconst 0, 1) := by decide +kernel
set_option maxRecDepth 20000 in
theorem dX7_list_20 : decode cX7_list 20 = .ok (.istore_n 3, 1) := by decide +kernel
set_option maxRecDepth 20000 in
theorem dX7_list_21 : decode cX7_list 21 = .ok (.iload_n 3, 1) := by decide +kernel
set_option maxRecDepth 20000 in
theorem dX7_list_22 : decode cX7_list 22 = .ok (.aload_n 0, 1) := by decide +kernel
set_option maxRecDepth 20000 in
theorem dX7_list_23 : decode cX7_list 23 = .ok (.getfield 26, 3) := by decide +kernel
set_option maxRecDepth 20000 in
theorem dX7_list_26 : decode cX7_list 26 = .ok (.iload_n 1, 1) := by decide +kernel
set_option maxRecDepth 20000 in
theorem dX7_list_27 : decode cX7_list 27 = .ok (.iaload, 1) := by decide +kernel
set_option maxRecDepth 20000 in
theorem dX7_list_28 : decode cX7_list 28 = .ok (.if_icmp .ge 27, 3) := by decide +kernel
set_option maxRecDepth 20000 in
theorem dX7_list_31 : decode cX7_list 31 = .ok (.aload_n 0, 1) := by decide +kernel
set_option maxRecDepth 20000 in
theorem dX7_list_32 : decode cX7_list 32 = .ok (.getfield 23, 3) := by decide +kernel
set_option maxRecDepth 20000 in
theorem dX7_list_35 : decode cX7_list 35 = .ok (.bipush 18, 2) := by decide +kernel
set_option maxRecDepth 20000 in
theorem dX7_list_37 : decode cX7_list 37 = .ok (.iload_n 1, 1) := by decide +kernel
set_option maxRecDepth 20000 in
theorem dX7_list_38 : decode cX7_list 38 = .ok (.imul, 1) := by decide +kernel
set_option maxRecDepth 20000 in
theorem dX7_list_39 : decode cX7_list 39 = .ok (.iload_n 3, 1) := by decide +kernel
set_option maxRecDepth 20000 in
theorem dX7_list_40 : decode cX7_list 40 = .ok (.iadd, 1) := by decide +kernel
set_option maxRecDepth 20000 in
theorem dX7_list_41 : decode cX7_list 41 = .ok (.iaload, 1) := by decide +kernel
set_option maxRecDepth 20000 in
theorem dX7_list_42 : decode cX7_list 42 = .ok (.iload_n 2, 1) := by decide +kernel
set_option maxRecDepth 20000 in
theorem dX7_list_43 : decode cX7_list 43 = .ok (.if_icmp .ne 6, 3) := by decide +kernel
set_option maxRecDepth 20000 in
theorem dX7_list_46 : decode cX7_list 46 = .ok (.bipush (-4), 2) := by decide +kernel
set_option maxRecDepth 20000 in
theorem dX7_list_48 : decode cX7_list 48 = .ok (.ireturn, 1) := by decide +kernel
set_option maxRecDepth 20000 in
theorem dX7_list_49 : decode cX7_list 49 = .ok (.iinc 3 1, 3) := by decide +kernel
set_option maxRecDepth 20000 in
theorem dX7_list_52 : decode cX7_list 52 = .ok (.goto (-31), 3) := by decide +kernel
set_option maxRecDepth 20000 in
theorem dX7_list_55 : decode cX7_list 55 = .ok (.aload_n 0, 1) := by decide +kernel
set_option maxRecDepth 20000 in
theorem dX7_list_56 : decode cX7_list 56 = .ok (.getfield 23, 3) := by decide +kernel
set_option maxRecDepth 20000 in
theorem dX7_list_59 : decode cX7_list 59 = .ok (.bipush 18, 2) := by decide +kernel
set_option maxRecDepth 20000 in
theorem dX7_list_61 : decode cX7_list 61 = .ok (.iload_n 1, 1) := by decide +kernel
set_option maxRecDepth 20000 in
theorem dX7_list_62 : decode cX7_list 62 = .ok (.imul, 1) := by decide +kernel
set_option maxRecDepth 20000 in
theorem dX7_list_63 : decode cX7_list 63 = .ok (.aload_n 0, 1) := by decide +kernel
set_option maxRecDepth 20000 in
theorem dX7_list_64 : decode cX7_list 64 = .ok (.getfield 26, 3) := by decide +kernel
set_option maxRecDepth 20000 in
theorem dX7_list_67 : decode cX7_list 67 = .ok (.iload_n 1, 1) := by decide +kernel
set_option maxRecDepth 20000 in
theorem dX7_list_68 : decode cX7_list 68 = .ok (.iaload, 1) := by decide +kernel
set_option maxRecDepth 20000 in
theorem dX7_list_69 : decode cX7_list 69 = .ok (.iadd, 1) := by decide +kernel
set_option maxRecDepth 20000 in
theorem dX7_list_70 : decode cX7_list 70 = .ok (.iload_n 2, 1) := by decide +kernel
set_option maxRecDepth 20000 in
theorem dX7_list_71 : decode cX7_list 71 = .ok (.iastore, 1) := by decide +kernel
set_option maxRecDepth 20000 in
theorem dX7_list_72 : decode cX7_list 72 = .ok (.aload_n 0, 1) := by decide +kernel
set_option maxRecDepth 20000 in
theorem dX7_list_73 : decode cX7_list 73 = .ok (.getfield 26, 3) := by decide +kernel
set_option maxRecDepth 20000 in
theorem dX7_list_76 : decode cX7_list 76 = .ok (.iload_n 1, 1) := by decide +kernel
set_option maxRecDepth 20000 in
theorem dX7_list_77 : decode cX7_list 77 = .ok (.dup2, 1) := by decide +kernel
set_option maxRecDepth 20000 in
theorem dX7_list_78 : decode cX7_list 78 = .ok (.iaload, 1) := by decide +kernel
set_option maxRecDepth 20000 in
theorem dX7_list_79 : decode cX7_list 79 = .ok (.iconst 1, 1) := by decide +kernel
set_option maxRecDepth 20000 in
theorem dX7_list_80 : decode cX7_list 80 = .ok (.iadd, 1) := by decide +kernel
set_option maxRecDepth 20000 in
theorem dX7_list_81 : decode cX7_list 81 = .ok (.iastore, 1) := by decide +kernel
set_option maxRecDepth 20000 in
theorem dX7_list_82 : decode cX7_list 82 = .ok (.aload_n 0, 1) := by decide +kernel
set_option maxRecDepth 20000 in
theorem dX7_list_83 : decode cX7_list 83 = .ok (.getfield 26, 3) := by decide +kernel
set_option maxRecDepth 20000 in
theorem dX7_list_86 : decode cX7_list 86 = .ok (.iload_n 1, 1) := by decide +kernel
set_option maxRecDepth 20000 in
theorem dX7_list_87 : decode cX7_list 87 = .ok (.iaload, 1) := by decide +kernel
set_option maxRecDepth 20000 in
theorem dX7_list_88 : decode cX7_list 88 = .ok (.ireturn, 1) := by decide +kernel
set_option maxRecDepth 20000 in
theorem dX7_forget_0 : decode cX7_forget 0 = .ok (.aload_n 0, 1) := by decide +kernel
set_option maxRecDepth 20000 in
theorem dX7_forget_1 : decode cX7_forget 1 = .ok (.iload_n 1, 1) := by decide +kernel
set_option maxRecDepth 20000 in
theorem dX7_forget_2 : decode cX7_forget 2 = .ok (.invokevirtual 60, 3) := by decide +kernel
set_option maxRecDepth 20000 in
theorem dX7_forget_5 : decode cX7_forget 5 = .ok (.ifCond .ne 6, 3) := by decide +kernel
set_option maxRecDepth 20000 in
theorem dX7_forget_8 : decode cX7_forget 8 = .ok (.bipush (-2), 2) := by decide +kernel
set_option maxRecDepth 20000 in
theorem dX7_forget_10 : decode cX7_forget 10 = .ok (.ireturn, 1) := by decide +kernel
set_option maxRecDepth 20000 in
theorem dX7_forget_11 : decode cX7_forget 11 = .ok (.aload_n 0, 1) := by decide +kernel
set_option maxRecDepth 20000 in
theorem dX7_forget_12 : decode cX7_forget 12 = .ok (.getfield 26, 3) := by decide +kernel
set_option maxRecDepth 20000 in
theorem dX7_forget_15 : decode cX7_forget 15 = .ok (.iload_n 1, 1) := by decide +kernel
set_option maxRecDepth 20000 in
theorem dX7_forget_16 : decode cX7_forget 16 = .ok (.iaload, 1) := by decide +kernel
set_option maxRecDepth 20000 in
theorem dX7_forget_17 : decode cX7_forget 17 = .ok (.istore_n 2, 1) := by decide +kernel
set_option maxRecDepth 20000 in
theorem dX7_forget_18 : decode cX7_forget 18 = .ok (.aload_n 0, 1) := by decide +kernel
set_option maxRecDepth 20000 in
theorem dX7_forget_19 : decode cX7_forget 19 = .ok (.getfield 26, 3) := by decide +kernel
set_option maxRecDepth 20000 in
theorem dX7_forget_22 : decode cX7_forget 22 = .ok (.iload_n 1, 1) := by decide +kernel
set_option maxRecDepth 20000 in
theorem dX7_forget_23 : decode cX7_forget 23 = .ok (.iconst 0, 1) := by decide +kernel
set_option maxRecDepth 20000 in
theorem dX7_forget_24 : decode cX7_forget 24 = .ok (.iastore, 1) := by decide +kernel
set_option maxRecDepth 20000 in
theorem dX7_forget_25 : decode cX7_forget 25 = .ok (.iload_n 2, 1) := by decide +kernel
set_option maxRecDepth 20000 in
theorem dX7_forget_26 : decode cX7_forget 26 = .ok (.ireturn, 1) := by decide +kernel
set_option maxRecDepth 20000 in
theorem dX7_winsBy_0 : decode cX7_winsBy 0 = .ok (.iconst 0, 1) := by decide +kernel
set_option maxRecDepth 20000 in
theorem dX7_winsBy_1 : decode cX7_winsBy 1 = .ok (.istore_n 3, 1) := by decide +kernel
set_option maxRecDepth 20000 in
theorem dX7_winsBy_2 : decode cX7_winsBy 2 = .ok (.iconst 0, 1) := by decide +kernel
set_option maxRecDepth 20000 in
theorem dX7_winsBy_3 : decode cX7_winsBy 3 = .ok (.istore 4, 2) := by decide +kernel
set_option maxRecDepth 20000 in
theorem dX7_winsBy_5 : decode cX7_winsBy 5 = .ok (.iload 4, 2) := by decide +kernel
set_option maxRecDepth 20000 in
theorem dX7_winsBy_7 : decode cX7_winsBy 7 = .ok (.aload_n 0, 1) := by decide +kernel
set_option maxRecDepth 20000 in
theorem dX7_winsBy_8 : decode cX7_winsBy 8 = .ok (.getfield 26, 3) := by decide +kernel
set_option maxRecDepth 20000 in
theorem dX7_winsBy_11 : decode cX7_winsBy 11 = .ok (.iload_n 2, 1) := by decide +kernel
set_option maxRecDepth 20000 in
theorem dX7_winsBy_12 : decode cX7_winsBy 12 = .ok (.iaload, 1) := by decide +kernel
set_option maxRecDepth 20000 in
theorem dX7_winsBy_13 : decode cX7_winsBy 13 = .ok (.if_icmp .ge 46, 3) := by decide +kernel
set_option maxRecDepth 20000 in
theorem dX7_winsBy_16 : decode cX7_winsBy 16 = .ok (.iload 4, 2) := by decide +kernel
set_option maxRecDepth 20000 in
theorem dX7_winsBy_18 : decode cX7_winsBy 18 = .ok (.aload_n 0, 1) := by decide +kernel
set_option maxRecDepth 20000 in
theorem dX7_winsBy_19 : decode cX7_winsBy 19 = .ok (.getfield 20, 3) := by decide +kernel
set_option maxRecDepth 20000 in
theorem dX7_winsBy_22 : decode cX7_winsBy 22 = .ok (.if_icmp .ge 37, 3) := by decide +kernel
set_option maxRecDepth 20000 in
theorem dX7_winsBy_25 : decode cX7_winsBy 25 = .ok (.iload_n 3, 1) := by decide +kernel
set_option maxRecDepth 20000 in
theorem dX7_winsBy_26 : decode cX7_winsBy 26 = .ok (.ifCond .ne 21, 3) := by decide +kernel
set_option maxRecDepth 20000 in
theorem dX7_winsBy_29 : decode cX7_winsBy 29 = .ok (.aload_n 1, 1) := by decide +kernel
set_option maxRecDepth 20000 in
theorem dX7_winsBy_30 : decode cX7_winsBy 30 = .ok (.aload_n 0, 1) := by decide +kernel
set_option maxRecDepth 20000 in
theorem dX7_winsBy_31 : decode cX7_winsBy 31 = .ok (.getfield 23, 3) := by decide +kernel
set_option maxRecDepth 20000 in
theorem dX7_winsBy_34 : decode cX7_winsBy 34 = .ok (.bipush 18, 2) := by decide +kernel
set_option maxRecDepth 20000 in
theorem dX7_winsBy_36 : decode cX7_winsBy 36 = .ok (.iload_n 2, 1) := by decide +kernel
set_option maxRecDepth 20000 in
theorem dX7_winsBy_37 : decode cX7_winsBy 37 = .ok (.imul, 1) := by decide +kernel
set_option maxRecDepth 20000 in
theorem dX7_winsBy_38 : decode cX7_winsBy 38 = .ok (.iload 4, 2) := by decide +kernel
set_option maxRecDepth 20000 in
theorem dX7_winsBy_40 : decode cX7_winsBy 40 = .ok (.iadd, 1) := by decide +kernel
set_option maxRecDepth 20000 in
theorem dX7_winsBy_41 : decode cX7_winsBy 41 = .ok (.iaload, 1) := by decide +kernel
set_option maxRecDepth 20000 in
theorem dX7_winsBy_42 : decode cX7_winsBy 42 = .ok (.iaload, 1) := by decide +kernel
set_option maxRecDepth 20000 in
theorem dX7_winsBy_43 : decode cX7_winsBy 43 = .ok (.iload_n 2, 1) := by decide +kernel
set_option maxRecDepth 20000 in
theorem dX7_winsBy_44 : decode cX7_winsBy 44 = .ok (.if_icmp .ne 7, 3) := by decide +kernel
set_option maxRecDepth 20000 in
theorem dX7_winsBy_47 : decode cX7_winsBy 47 = .ok (.iconst 1, 1) := by decide +kernel
set_option maxRecDepth 20000 in
theorem dX7_winsBy_48 : decode cX7_winsBy 48 = .ok (.goto 4, 3) := by decide +kernel
set_option maxRecDepth 20000 in
theorem dX7_winsBy_51 : decode cX7_winsBy 51 = .ok (.iconst 0, 1) := by decide +kernel
set_option maxRecDepth 20000 in
theorem dX7_winsBy_52 : decode cX7_winsBy 52 = .ok (.istore_n 3, 1) := by decide +kernel
set_option maxRecDepth 20000 in
theorem dX7_winsBy_53 : decode cX7_winsBy 53 = .ok (.iinc 4 1, 3) := by decide +kernel
set_option maxRecDepth 20000 in
theorem dX7_winsBy_56 : decode cX7_winsBy 56 = .ok (.goto (-51), 3) := by decide +kernel
set_option maxRecDepth 20000 in
theorem dX7_winsBy_59 : decode cX7_winsBy 59 = .ok (.iload_n 3, 1) := by decide +kernel
set_option maxRecDepth 20000 in
theorem dX7_winsBy_60 : decode cX7_winsBy 60 = .ok (.ireturn, 1) := by decide +kernel
set_option maxRecDepth 20000 in
theorem dX7_wins_0 : decode cX7_wins 0 = .ok (.iload_n 1, 1) := by decide +kernel
set_option maxRecDepth 20000 in
theorem dX7_wins_1 : decode cX7_wins 1 = .ok (.i2l, 1) := by decide +kernel
set_option maxRecDepth 20000 in
theorem dX7_wins_2 : decode cX7_wins 2 = .ok (.lconst 0, 1) := by decide +kernel
set_option maxRecDepth 20000 in
theorem dX7_wins_3 : decode cX7_wins 3 = .ok (.lconst 1, 1) := by decide +kernel
set_option maxRecDepth 20000 in
theorem dX7_wins_4 : decode cX7_wins 4 = .ok (.invokestatic 51, 3) := by decide +kernel
set_option maxRecDepth 20000 in
theorem dX7_wins_7 : decode cX7_wins 7 = .ok (.ifCond .eq 11, 3) := by decide +kernel
set_option maxRecDepth 20000 in
theorem dX7_wins_10 : decode cX7_wins 10 = .ok (.aload_n 0, 1) := by decide +kernel
set_option maxRecDepth 20000 in
theorem dX7_wins_11 : decode cX7_wins 11 = .ok (.iload_n 2, 1) := by decide +kernel
set_option maxRecDepth 20000 in
theorem dX7_wins_12 : decode cX7_wins 12 = .ok (.invokevirtual 60, 3) := by decide +kernel
set_option maxRecDepth 20000 in
theorem dX7_wins_15 : decode cX7_wins 15 = .ok (.ifCond .ne 6, 3) := by decide +kernel
set_option maxRecDepth 20000 in
theorem dX7_wins_18 : decode cX7_wins 18 = .ok (.bipush (-2), 2) := by decide +kernel
set_option maxRecDepth 20000 in
theorem dX7_wins_20 : decode cX7_wins 20 = .ok (.ireturn, 1) := by decide +kernel
set_option maxRecDepth 20000 in
theorem dX7_wins_21 : decode cX7_wins 21 = .ok (.iload_n 1, 1) := by decide +kernel
set_option maxRecDepth 20000 in
theorem dX7_wins_22 : decode cX7_wins 22 = .ok (.ifCond .ne 18, 3) := by decide +kernel
set_option maxRecDepth 20000 in
theorem dX7_wins_25 : decode cX7_wins 25 = .ok (.aload_n 0, 1) := by decide +kernel
set_option maxRecDepth 20000 in
theorem dX7_wins_26 : decode cX7_wins 26 = .ok (.iload_n 2, 1) := by decide +kernel
set_option maxRecDepth 20000 in
theorem dX7_wins_27 : decode cX7_wins 27 = .ok (.invokevirtual 66, 3) := by decide +kernel
set_option maxRecDepth 20000 in
theorem dX7_wins_30 : decode cX7_wins 30 = .ok (.aload_n 0, 1) := by decide +kernel
set_option maxRecDepth 20000 in
theorem dX7_wins_31 : decode cX7_wins 31 = .ok (.getfield 20, 3) := by decide +kernel
set_option maxRecDepth 20000 in
theorem dX7_wins_34 : decode cX7_wins 34 = .ok (.if_icmp .gt 22, 3) := by decide +kernel
set_option maxRecDepth 20000 in
theorem dX7_wins_37 : decode cX7_wins 37 = .ok (.goto 15, 3) := by decide +kernel
set_option maxRecDepth 20000 in
theorem dX7_wins_40 : decode cX7_wins 40 = .ok (.aload_n 0, 1) := by decide +kernel
set_option maxRecDepth 20000 in
theorem dX7_wins_41 : decode cX7_wins 41 = .ok (.aload_n 0, 1) := by decide +kernel
set_option maxRecDepth 20000 in
theorem dX7_wins_42 : decode cX7_wins 42 = .ok (.getfield 13, 3) := by decide +kernel
set_option maxRecDepth 20000 in
theorem dX7_wins_45 : decode cX7_wins 45 = .ok (.iload_n 2, 1) := by decide +kernel
set_option maxRecDepth 20000 in
theorem dX7_wins_46 : decode cX7_wins 46 = .ok (.invokevirtual 167, 3) := by decide +kernel
set_option maxRecDepth 20000 in
theorem dX7_wins_49 : decode cX7_wins 49 = .ok (.ifCond .eq 7, 3) := by decide +kernel
set_option maxRecDepth 20000 in
theorem dX7_wins_52 : decode cX7_wins 52 = .ok (.iconst 1, 1) := by decide +kernel
set_option maxRecDepth 20000 in
theorem dX7_wins_53 : decode cX7_wins 53 = .ok (.goto 4, 3) := by decide +kernel
set_option maxRecDepth 20000 in
theorem dX7_wins_56 : decode cX7_wins 56 = .ok (.iconst 0, 1) := by decide +kernel
set_option maxRecDepth 20000 in
theorem dX7_wins_57 : decode cX7_wins 57 = .ok (.ireturn, 1) := by decide +kernel
set_option maxRecDepth 20000 in
theorem dX7_layRow_0 : decode cX7_layRow 0 = .ok (.iload_n 1, 1) := by decide +kernel
set_option maxRecDepth 20000 in
theorem dX7_layRow_1 : decode cX7_layRow 1 = .ok (.istore_n 2, 1) := by decide +kernel
set_option maxRecDepth 20000 in
theorem dX7_layRow_2 : decode cX7_layRow 2 = .ok (.iconst 0, 1) := by decide +kernel
set_option maxRecDepth 20000 in
theorem dX7_layRow_3 : decode cX7_layRow 3 = .ok (.istore_n 3, 1) := by decide +kernel
set_option maxRecDepth 20000 in
theorem dX7_layRow_4 : decode cX7_layRow 4 = .ok (.iconst 0, 1) := by decide +kernel
set_option maxRecDepth 20000 in
theorem dX7_layRow_5 : decode cX7_layRow 5 = .ok (.istore 4, 2) := by decide +kernel
set_option maxRecDepth 20000 in
theorem dX7_layRow_7 : decode cX7_layRow 7 = .ok (.iload 4, 2) := by decide +kernel
set_option maxRecDepth 20000 in
theorem dX7_layRow_9 : decode cX7_layRow 9 = .ok (.aload_n 0, 1) := by decide +kernel
set_option maxRecDepth 20000 in
theorem dX7_layRow_10 : decode cX7_layRow 10 = .ok (.getfield 7, 3) := by decide +kernel
set_option maxRecDepth 20000 in
theorem dX7_layRow_13 : decode cX7_layRow 13 = .ok (.if_icmp .ge 96, 3) := by decide +kernel
set_option maxRecDepth 20000 in
theorem dX7_layRow_16 : decode cX7_layRow 16 = .ok (.aload_n 0, 1) := by decide +kernel
set_option maxRecDepth 20000 in
theorem dX7_layRow_17 : decode cX7_layRow 17 = .ok (.getfield 39, 3) := by decide +kernel
set_option maxRecDepth 20000 in
theorem dX7_layRow_20 : decode cX7_layRow 20 = .ok (.aload_n 0, 1) := by decide +kernel
set_option maxRecDepth 20000 in
theorem dX7_layRow_21 : decode cX7_layRow 21 = .ok (.getfield 7, 3) := by decide +kernel
set_option maxRecDepth 20000 in
theorem dX7_layRow_24 : decode cX7_layRow 24 = .ok (.iconst 1, 1) := by decide +kernel
set_option maxRecDepth 20000 in
theorem dX7_layRow_25 : decode cX7_layRow 25 = .ok (.isub, 1) := by decide +kernel
set_option maxRecDepth 20000 in
theorem dX7_layRow_26 : decode cX7_layRow 26 = .ok (.iload 4, 2) := by decide +kernel
set_option maxRecDepth 20000 in
theorem dX7_layRow_28 : decode cX7_layRow 28 = .ok (.isub, 1) := by decide +kernel
set_option maxRecDepth 20000 in
theorem dX7_layRow_29 : decode cX7_layRow 29 = .ok (.laload, 1) := by decide +kernel
set_option maxRecDepth 20000 in
theorem dX7_layRow_30 : decode cX7_layRow 30 = .ok (.l2i, 1) := by decide +kernel
set_option maxRecDepth 20000 in
theorem dX7_layRow_31 : decode cX7_layRow 31 = .ok (.istore 5, 2) := by decide +kernel
set_option maxRecDepth 20000 in
theorem dX7_layRow_33 : decode cX7_layRow 33 = .ok (.iload_n 2, 1) := by decide +kernel
set_option maxRecDepth 20000 in
theorem dX7_layRow_34 : decode cX7_layRow 34 = .ok (.iload 5, 2) := by decide +kernel
set_option maxRecDepth 20000 in
theorem dX7_layRow_36 : decode cX7_layRow 36 = .ok (.idiv, 1) := by decide +kernel
set_option maxRecDepth 20000 in
theorem dX7_layRow_37 : decode cX7_layRow 37 = .ok (.istore 6, 2) := by decide +kernel
set_option maxRecDepth 20000 in
theorem dX7_layRow_39 : decode cX7_layRow 39 = .ok (.iload_n 2, 1) := by decide +kernel
set_option maxRecDepth 20000 in
theorem dX7_layRow_40 : decode cX7_layRow 40 = .ok (.iload 5, 2) := by decide +kernel
set_option maxRecDepth 20000 in
theorem dX7_layRow_42 : decode cX7_layRow 42 = .ok (.irem, 1) := by decide +kernel
set_option maxRecDepth 20000 in
theorem dX7_layRow_43 : decode cX7_layRow 43 = .ok (.istore_n 2, 1) := by decide +kernel
set_option maxRecDepth 20000 in
theorem dX7_layRow_44 : decode cX7_layRow 44 = .ok (.iconst 0, 1) := by decide +kernel
set_option maxRecDepth 20000 in
theorem dX7_layRow_45 : decode cX7_layRow 45 = .ok (.istore 7, 2) := by decide +kernel
set_option maxRecDepth 20000 in
theorem dX7_layRow_47 : decode cX7_layRow 47 = .ok (.iload_n 3, 1) := by decide +kernel
set_option maxRecDepth 20000 in
theorem dX7_layRow_48 : decode cX7_layRow 48 = .ok (.iload 7, 2) := by decide +kernel
set_option maxRecDepth 20000 in
theorem dX7_layRow_50 : decode cX7_layRow 50 = .ok (.ishr, 1) := by decide +kernel
set_option maxRecDepth 20000 in
theorem dX7_layRow_51 : decode cX7_layRow 51 = .ok (.iconst 1, 1) := by decide +kernel
set_option maxRecDepth 20000 in
theorem dX7_layRow_52 : decode cX7_layRow 52 = .ok (.iand, 1) := by decide +kernel
set_option maxRecDepth 20000 in
theorem dX7_layRow_53 : decode cX7_layRow 53 = .ok (.iconst 1, 1) := by decide +kernel
set_option maxRecDepth 20000 in
theorem dX7_layRow_54 : decode cX7_layRow 54 = .ok (.if_icmp .eq 8, 3) := by decide +kernel
set_option maxRecDepth 20000 in
theorem dX7_layRow_57 : decode cX7_layRow 57 = .ok (.iload 6, 2) := by decide +kernel
set_option maxRecDepth 20000 in
theorem dX7_layRow_59 : decode cX7_layRow 59 = .ok (.ifCond .le 28, 3) := by decide +kernel
set_option maxRecDepth 20000 in
theorem dX7_layRow_62 : decode cX7_layRow 62 = .ok (.iload 6, 2) := by decide +kernel
set_option maxRecDepth 20000 in
theorem dX7_layRow_64 : decode cX7_layRow 64 = .ok (.iload_n 3, 1) := by decide +kernel
set_option maxRecDepth 20000 in
theorem dX7_layRow_65 : decode cX7_layRow 65 = .ok (.iload 7, 2) := by decide +kernel
set_option maxRecDepth 20000 in
theorem dX7_layRow_67 : decode cX7_layRow 67 = .ok (.ishr, 1) := by decide +kernel
set_option maxRecDepth 20000 in
theorem dX7_layRow_68 : decode cX7_layRow 68 = .ok (.iconst 1, 1) := by decide +kernel
set_option maxRecDepth 20000 in
theorem dX7_layRow_69 : decode cX7_layRow 69 = .ok (.iand, 1) := by decide +kernel
set_option maxRecDepth 20000 in
theorem dX7_layRow_70 : decode cX7_layRow 70 = .ok (.ifCond .ne 7, 3) := by decide +kernel
set_option maxRecDepth 20000 in
theorem dX7_layRow_73 : decode cX7_layRow 73 = .ok (.iconst 1, 1) := by decide +kernel
set_option maxRecDepth 20000 in
theorem dX7_layRow_74 : decode cX7_layRow 74 = .ok (.goto 4, 3) := by decide +kernel
set_option maxRecDepth 20000 in
theorem dX7_layRow_77 : decode cX7_layRow 77 = .ok (.iconst 0, 1) := by decide +kernel
set_option maxRecDepth 20000 in
theorem dX7_layRow_78 : decode cX7_layRow 78 = .ok (.isub, 1) := by decide +kernel
set_option maxRecDepth 20000 in
theorem dX7_layRow_79 : decode cX7_layRow 79 = .ok (.istore 6, 2) := by decide +kernel
set_option maxRecDepth 20000 in
theorem dX7_layRow_81 : decode cX7_layRow 81 = .ok (.iinc 7 1, 3) := by decide +kernel
set_option maxRecDepth 20000 in
theorem dX7_layRow_84 : decode cX7_layRow 84 = .ok (.goto (-37), 3) := by decide +kernel
set_option maxRecDepth 20000 in
theorem dX7_layRow_87 : decode cX7_layRow 87 = .ok (.iload_n 3, 1) := by decide +kernel
set_option maxRecDepth 20000 in
theorem dX7_layRow_88 : decode cX7_layRow 88 = .ok (.iconst 1, 1) := by decide +kernel
set_option maxRecDepth 20000 in
theorem dX7_layRow_89 : decode cX7_layRow 89 = .ok (.iload 7, 2) := by decide +kernel
set_option maxRecDepth 20000 in
theorem dX7_layRow_91 : decode cX7_layRow 91 = .ok (.ishl, 1) := by decide +kernel
set_option maxRecDepth 20000 in
theorem dX7_layRow_92 : decode cX7_layRow 92 = .ok (.ior, 1) := by decide +kernel
set_option maxRecDepth 20000 in
theorem dX7_layRow_93 : decode cX7_layRow 93 = .ok (.istore_n 3, 1) := by decide +kernel
set_option maxRecDepth 20000 in
theorem dX7_layRow_94 : decode cX7_layRow 94 = .ok (.aload_n 0, 1) := by decide +kernel
set_option maxRecDepth 20000 in
theorem dX7_layRow_95 : decode cX7_layRow 95 = .ok (.getfield 29, 3) := by decide +kernel
set_option maxRecDepth 20000 in
theorem dX7_layRow_98 : decode cX7_layRow 98 = .ok (.iload 4, 2) := by decide +kernel
set_option maxRecDepth 20000 in
theorem dX7_layRow_100 : decode cX7_layRow 100 = .ok (.iload 7, 2) := by decide +kernel
set_option maxRecDepth 20000 in
theorem dX7_layRow_102 : decode cX7_layRow 102 = .ok (.iastore, 1) := by decide +kernel
set_option maxRecDepth 20000 in
theorem dX7_layRow_103 : decode cX7_layRow 103 = .ok (.iinc 4 1, 3) := by decide +kernel
set_option maxRecDepth 20000 in
theorem dX7_layRow_106 : decode cX7_layRow 106 = .ok (.goto (-99), 3) := by decide +kernel
set_option maxRecDepth 20000 in
theorem dX7_layRow_109 : decode cX7_layRow 109 = .ok (.return_, 1) := by decide +kernel
set_option maxRecDepth 20000 in
theorem dX7_allWin_0 : decode cX7_allWin 0 = .ok (.iload_n 1, 1) := by decide +kernel
set_option maxRecDepth 20000 in
theorem dX7_allWin_1 : decode cX7_allWin 1 = .ok (.i2l, 1) := by decide +kernel
set_option maxRecDepth 20000 in
theorem dX7_allWin_2 : decode cX7_allWin 2 = .ok (.lconst 0, 1) := by decide +kernel
set_option maxRecDepth 20000 in
theorem dX7_allWin_3 : decode cX7_allWin 3 = .ok (.lconst 1, 1) := by decide +kernel
set_option maxRecDepth 20000 in
theorem dX7_allWin_4 : decode cX7_allWin 4 = .ok (.invokestatic 51, 3) := by decide +kernel
set_option maxRecDepth 20000 in
theorem dX7_allWin_7 : decode cX7_allWin 7 = .ok (.ifCond .ne 7, 3) := by decide +kernel
set_option maxRecDepth 20000 in
theorem dX7_allWin_10 : decode cX7_allWin 10 = .ok (.ldc2_w 122, 3) := by decide +kernel
set_option maxRecDepth 20000 in
theorem dX7_allWin_13 : decode cX7_allWin 13 = .ok (.lreturn, 1) := by decide +kernel
set_option maxRecDepth 20000 in
theorem dX7_allWin_14 : decode cX7_allWin 14 = .ok (.iload_n 1, 1) := by decide +kernel
set_option maxRecDepth 20000 in
theorem dX7_allWin_15 : decode cX7_allWin 15 = .ok (.iconst 1, 1) := by decide +kernel
set_option maxRecDepth 20000 in
theorem dX7_allWin_16 : decode cX7_allWin 16 = .ok (.if_icmp .ne 16, 3) := by decide +kernel
set_option maxRecDepth 20000 in
theorem dX7_allWin_19 : decode cX7_allWin 19 = .ok (.aload_n 0, 1) := by decide +kernel
set_option maxRecDepth 20000 in
theorem dX7_allWin_20 : decode cX7_allWin 20 = .ok (.getfield 7, 3) := by decide +kernel
set_option maxRecDepth 20000 in
theorem dX7_allWin_23 : decode cX7_allWin 23 = .ok (.bipush 7, 2) := by decide +kernel
set_option maxRecDepth 20000 in
theorem dX7_allWin_25 : decode cX7_allWin 25 = .ok (.if_icmp .le 7, 3) := by decide +kernel
set_option maxRecDepth 20000 in
theorem dX7_allWin_28 : decode cX7_allWin 28 = .ok (.ldc2_w 171, 3) := by decide +kernel
set_option maxRecDepth 20000 in
theorem dX7_allWin_31 : decode cX7_allWin 31 = .ok (.lreturn, 1) := by decide +kernel
set_option maxRecDepth 20000 in
theorem dX7_allWin_32 : decode cX7_allWin 32 = .ok (.aload_n 0, 1) := by decide +kernel
set_option maxRecDepth 20000 in
theorem dX7_allWin_33 : decode cX7_allWin 33 = .ok (.iconst 4, 1) := by decide +kernel
set_option maxRecDepth 20000 in
theorem dX7_allWin_34 : decode cX7_allWin 34 = .ok (.invokevirtual 124, 3) := by decide +kernel
set_option maxRecDepth 20000 in
theorem dX7_allWin_37 : decode cX7_allWin 37 = .ok (.lconst 0, 1) := by decide +kernel
set_option maxRecDepth 20000 in
theorem dX7_allWin_38 : decode cX7_allWin 38 = .ok (.lstore_n 2, 1) := by decide +kernel
set_option maxRecDepth 20000 in
theorem dX7_allWin_39 : decode cX7_allWin 39 = .ok (.iconst 1, 1) := by decide +kernel
set_option maxRecDepth 20000 in
theorem dX7_allWin_40 : decode cX7_allWin 40 = .ok (.istore 4, 2) := by decide +kernel
set_option maxRecDepth 20000 in
theorem dX7_allWin_42 : decode cX7_allWin 42 = .ok (.iload 4, 2) := by decide +kernel
set_option maxRecDepth 20000 in
theorem dX7_allWin_44 : decode cX7_allWin 44 = .ok (.aload_n 0, 1) := by decide +kernel
set_option maxRecDepth 20000 in
theorem dX7_allWin_45 : decode cX7_allWin 45 = .ok (.getfield 20, 3) := by decide +kernel
set_option maxRecDepth 20000 in
theorem dX7_allWin_48 : decode cX7_allWin 48 = .ok (.if_icmp .gt 23, 3) := by decide +kernel
set_option maxRecDepth 20000 in
theorem dX7_allWin_51 : decode cX7_allWin 51 = .ok (.iload_n 1, 1) := by decide +kernel
set_option maxRecDepth 20000 in
theorem dX7_allWin_52 : decode cX7_allWin 52 = .ok (.ifCond .ne 19, 3) := by decide +kernel
set_option maxRecDepth 20000 in
theorem dX7_allWin_55 : decode cX7_allWin 55 = .ok (.lload_n 2, 1) := by decide +kernel
set_option maxRecDepth 20000 in
theorem dX7_allWin_56 : decode cX7_allWin 56 = .ok (.aload_n 0, 1) := by decide +kernel
set_option maxRecDepth 20000 in
theorem dX7_allWin_57 : decode cX7_allWin 57 = .ok (.getfield 32, 3) := by decide +kernel
set_option maxRecDepth 20000 in
theorem dX7_allWin_60 : decode cX7_allWin 60 = .ok (.iload 4, 2) := by decide +kernel
set_option maxRecDepth 20000 in
theorem dX7_allWin_62 : decode cX7_allWin 62 = .ok (.laload, 1) := by decide +kernel
set_option maxRecDepth 20000 in
theorem dX7_allWin_63 : decode cX7_allWin 63 = .ok (.ladd, 1) := by decide +kernel
set_option maxRecDepth 20000 in
theorem dX7_allWin_64 : decode cX7_allWin 64 = .ok (.lstore_n 2, 1) := by decide +kernel
set_option maxRecDepth 20000 in
theorem dX7_allWin_65 : decode cX7_allWin 65 = .ok (.iinc 4 1, 3) := by decide +kernel
set_option maxRecDepth 20000 in
theorem dX7_allWin_68 : decode cX7_allWin 68 = .ok (.goto (-26), 3) := by decide +kernel
set_option maxRecDepth 20000 in
theorem dX7_allWin_71 : decode cX7_allWin 71 = .ok (.iconst 0, 1) := by decide +kernel
set_option maxRecDepth 20000 in
theorem dX7_allWin_72 : decode cX7_allWin 72 = .ok (.istore 4, 2) := by decide +kernel
set_option maxRecDepth 20000 in
theorem dX7_allWin_74 : decode cX7_allWin 74 = .ok (.iload_n 1, 1) := by decide +kernel
set_option maxRecDepth 20000 in
theorem dX7_allWin_75 : decode cX7_allWin 75 = .ok (.iconst 1, 1) := by decide +kernel
set_option maxRecDepth 20000 in
theorem dX7_allWin_76 : decode cX7_allWin 76 = .ok (.if_icmp .ne 90, 3) := by decide +kernel
set_option maxRecDepth 20000 in
theorem dX7_allWin_79 : decode cX7_allWin 79 = .ok (.iload 4, 2) := by decide +kernel
set_option maxRecDepth 20000 in
theorem dX7_allWin_81 : decode cX7_allWin 81 = .ok (.i2l, 1) := by decide +kernel
set_option maxRecDepth 20000 in
theorem dX7_allWin_82 : decode cX7_allWin 82 = .ok (.aload_n 0, 1) := by decide +kernel
set_option maxRecDepth 20000 in
theorem dX7_allWin_83 : decode cX7_allWin 83 = .ok (.getfield 39, 3) := by decide +kernel
set_option maxRecDepth 20000 in
theorem dX7_allWin_86 : decode cX7_allWin 86 = .ok (.aload_n 0, 1) := by decide +kernel
set_option maxRecDepth 20000 in
theorem dX7_allWin_87 : decode cX7_allWin 87 = .ok (.getfield 7, 3) := by decide +kernel
set_option maxRecDepth 20000 in
theorem dX7_allWin_90 : decode cX7_allWin 90 = .ok (.laload, 1) := by decide +kernel
set_option maxRecDepth 20000 in
theorem dX7_allWin_91 : decode cX7_allWin 91 = .ok (.lcmp, 1) := by decide +kernel
set_option maxRecDepth 20000 in
theorem dX7_allWin_92 : decode cX7_allWin 92 = .ok (.ifCond .ge 74, 3) := by decide +kernel
set_option maxRecDepth 20000 in
theorem dX7_allWin_95 : decode cX7_allWin 95 = .ok (.aload_n 0, 1) := by decide +kernel
set_option maxRecDepth 20000 in
theorem dX7_allWin_96 : decode cX7_allWin 96 = .ok (.iload 4, 2) := by decide +kernel
set_option maxRecDepth 20000 in
theorem dX7_allWin_98 : decode cX7_allWin 98 = .ok (.invokevirtual 173, 3) := by decide +kernel
set_option maxRecDepth 20000 in
theorem dX7_allWin_101 : decode cX7_allWin 101 = .ok (.iconst 1, 1) := by decide +kernel
set_option maxRecDepth 20000 in
theorem dX7_allWin_102 : decode cX7_allWin 102 = .ok (.istore 5, 2) := by decide +kernel
set_option maxRecDepth 20000 in
theorem dX7_allWin_104 : decode cX7_allWin 104 = .ok (.iconst 0, 1) := by decide +kernel
set_option maxRecDepth 20000 in
theorem dX7_allWin_105 : decode cX7_allWin 105 = .ok (.istore 6, 2) := by decide +kernel
set_option maxRecDepth 20000 in
theorem dX7_allWin_107 : decode cX7_allWin 107 = .ok (.iload 6, 2) := by decide +kernel
set_option maxRecDepth 20000 in
theorem dX7_allWin_109 : decode cX7_allWin 109 = .ok (.aload_n 0, 1) := by decide +kernel
set_option maxRecDepth 20000 in
theorem dX7_allWin_110 : decode cX7_allWin 110 = .ok (.getfield 7, 3) := by decide +kernel
set_option maxRecDepth 20000 in
theorem dX7_allWin_113 : decode cX7_allWin 113 = .ok (.if_icmp .ge 34, 3) := by decide +kernel
set_option maxRecDepth 20000 in
theorem dX7_allWin_116 : decode cX7_allWin 116 = .ok (.iload 5, 2) := by decide +kernel
set_option maxRecDepth 20000 in
theorem dX7_allWin_118 : decode cX7_allWin 118 = .ok (.ifCond .eq 20, 3) := by decide +kernel
set_option maxRecDepth 20000 in
theorem dX7_allWin_121 : decode cX7_allWin 121 = .ok (.aload_n 0, 1) := by decide +kernel
set_option maxRecDepth 20000 in
theorem dX7_allWin_122 : decode cX7_allWin 122 = .ok (.aload_n 0, 1) := by decide +kernel
set_option maxRecDepth 20000 in
theorem dX7_allWin_123 : decode cX7_allWin 123 = .ok (.getfield 29, 3) := by decide +kernel
set_option maxRecDepth 20000 in
theorem dX7_allWin_126 : decode cX7_allWin 126 = .ok (.iload 6, 2) := by decide +kernel
set_option maxRecDepth 20000 in
theorem dX7_allWin_128 : decode cX7_allWin 128 = .ok (.invokevirtual 167, 3) := by decide +kernel
set_option maxRecDepth 20000 in
theorem dX7_allWin_131 : decode cX7_allWin 131 = .ok (.ifCond .eq 7, 3) := by decide +kernel
set_option maxRecDepth 20000 in
theorem dX7_allWin_134 : decode cX7_allWin 134 = .ok (.iconst 1, 1) := by decide +kernel
set_option maxRecDepth 20000 in
theorem dX7_allWin_135 : decode cX7_allWin 135 = .ok (.goto 4, 3) := by decide +kernel
set_option maxRecDepth 20000 in
theorem dX7_allWin_138 : decode cX7_allWin 138 = .ok (.iconst 0, 1) := by decide +kernel
set_option maxRecDepth 20000 in
theorem dX7_allWin_139 : decode cX7_allWin 139 = .ok (.istore 5, 2) := by decide +kernel
set_option maxRecDepth 20000 in
theorem dX7_allWin_141 : decode cX7_allWin 141 = .ok (.iinc 6 1, 3) := by decide +kernel
set_option maxRecDepth 20000 in
theorem dX7_allWin_144 : decode cX7_allWin 144 = .ok (.goto (-37), 3) := by decide +kernel
set_option maxRecDepth 20000 in
theorem dX7_allWin_147 : decode cX7_allWin 147 = .ok (.lload_n 2, 1) := by decide +kernel
set_option maxRecDepth 20000 in
theorem dX7_allWin_148 : decode cX7_allWin 148 = .ok (.iload 5, 2) := by decide +kernel
set_option maxRecDepth 20000 in
theorem dX7_allWin_150 : decode cX7_allWin 150 = .ok (.ifCond .eq 7, 3) := by decide +kernel
set_option maxRecDepth 20000 in
theorem dX7_allWin_153 : decode cX7_allWin 153 = .ok (.lconst 1, 1) := by decide +kernel
set_option maxRecDepth 20000 in
theorem dX7_allWin_154 : decode cX7_allWin 154 = .ok (.goto 4, 3) := by decide +kernel
set_option maxRecDepth 20000 in
theorem dX7_allWin_157 : decode cX7_allWin 157 = .ok (.lconst 0, 1) := by decide +kernel
set_option maxRecDepth 20000 in
theorem dX7_allWin_158 : decode cX7_allWin 158 = .ok (.ladd, 1) := by decide +kernel
set_option maxRecDepth 20000 in
theorem dX7_allWin_159 : decode cX7_allWin 159 = .ok (.lstore_n 2, 1) := by decide +kernel
set_option maxRecDepth 20000 in
theorem dX7_allWin_160 : decode cX7_allWin 160 = .ok (.iinc 4 1, 3) := by decide +kernel
set_option maxRecDepth 20000 in
theorem dX7_allWin_163 : decode cX7_allWin 163 = .ok (.goto (-89), 3) := by decide +kernel
set_option maxRecDepth 20000 in
theorem dX7_allWin_166 : decode cX7_allWin 166 = .ok (.lload_n 2, 1) := by decide +kernel
set_option maxRecDepth 20000 in
theorem dX7_allWin_167 : decode cX7_allWin 167 = .ok (.lreturn, 1) := by decide +kernel
set_option maxRecDepth 20000 in
theorem dX7_count_0 : decode cX7_count 0 = .ok (.iconst 0, 1) := by decide +kernel
set_option maxRecDepth 20000 in
theorem dX7_count_1 : decode cX7_count 1 = .ok (.istore_n 2, 1) := by decide +kernel
set_option maxRecDepth 20000 in
theorem dX7_count_2 : decode cX7_count 2 = .ok (.iload_n 1, 1) := by decide +kernel
set_option maxRecDepth 20000 in
theorem dX7_count_3 : decode cX7_count 3 = .ok (.tableswitch 62 0 2 #[25, 30, 35], 25) := by decide +kernel
set_option maxRecDepth 20000 in
theorem dX7_count_28 : decode cX7_count 28 = .ok (.aload_n 0, 1) := by decide +kernel
set_option maxRecDepth 20000 in
theorem dX7_count_29 : decode cX7_count 29 = .ok (.getfield 7, 3) := by decide +kernel
set_option maxRecDepth 20000 in
theorem dX7_count_32 : decode cX7_count 32 = .ok (.ireturn, 1) := by decide +kernel
set_option maxRecDepth 20000 in
theorem dX7_count_33 : decode cX7_count 33 = .ok (.aload_n 0, 1) := by decide +kernel
set_option maxRecDepth 20000 in
theorem dX7_count_34 : decode cX7_count 34 = .ok (.getfield 20, 3) := by decide +kernel
set_option maxRecDepth 20000 in
theorem dX7_count_37 : decode cX7_count 37 = .ok (.ireturn, 1) := by decide +kernel
set_option maxRecDepth 20000 in
theorem dX7_count_38 : decode cX7_count 38 = .ok (.iconst 0, 1) := by decide +kernel
set_option maxRecDepth 20000 in
theorem dX7_count_39 : decode cX7_count 39 = .ok (.istore_n 3, 1) := by decide +kernel
set_option maxRecDepth 20000 in
theorem dX7_count_40 : decode cX7_count 40 = .ok (.iload_n 3, 1) := by decide +kernel
set_option maxRecDepth 20000 in
theorem dX7_count_41 : decode cX7_count 41 = .ok (.aload_n 0, 1) := by decide +kernel
set_option maxRecDepth 20000 in
theorem dX7_count_42 : decode cX7_count 42 = .ok (.getfield 7, 3) := by decide +kernel
set_option maxRecDepth 20000 in
theorem dX7_count_45 : decode cX7_count 45 = .ok (.if_icmp .ge 18, 3) := by decide +kernel
set_option maxRecDepth 20000 in
theorem dX7_count_48 : decode cX7_count 48 = .ok (.iload_n 2, 1) := by decide +kernel
set_option maxRecDepth 20000 in
theorem dX7_count_49 : decode cX7_count 49 = .ok (.aload_n 0, 1) := by decide +kernel
set_option maxRecDepth 20000 in
theorem dX7_count_50 : decode cX7_count 50 = .ok (.getfield 26, 3) := by decide +kernel
set_option maxRecDepth 20000 in
theorem dX7_count_53 : decode cX7_count 53 = .ok (.iload_n 3, 1) := by decide +kernel
set_option maxRecDepth 20000 in
theorem dX7_count_54 : decode cX7_count 54 = .ok (.iaload, 1) := by decide +kernel
set_option maxRecDepth 20000 in
theorem dX7_count_55 : decode cX7_count 55 = .ok (.iadd, 1) := by decide +kernel
set_option maxRecDepth 20000 in
theorem dX7_count_56 : decode cX7_count 56 = .ok (.istore_n 2, 1) := by decide +kernel
set_option maxRecDepth 20000 in
theorem dX7_count_57 : decode cX7_count 57 = .ok (.iinc 3 1, 3) := by decide +kernel
set_option maxRecDepth 20000 in
theorem dX7_count_60 : decode cX7_count 60 = .ok (.goto (-20), 3) := by decide +kernel
set_option maxRecDepth 20000 in
theorem dX7_count_63 : decode cX7_count 63 = .ok (.iload_n 2, 1) := by decide +kernel
set_option maxRecDepth 20000 in
theorem dX7_count_64 : decode cX7_count 64 = .ok (.ireturn, 1) := by decide +kernel
set_option maxRecDepth 20000 in
theorem dX7_count_65 : decode cX7_count 65 = .ok (.bipush (-2), 2) := by decide +kernel
set_option maxRecDepth 20000 in
theorem dX7_count_67 : decode cX7_count 67 = .ok (.ireturn, 1) := by decide +kernel
