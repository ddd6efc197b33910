theorem dX4_init_0 : decode cX4_init 0 = .ok (.aload_n 0, 1) := by decide +kernel
theorem dX4_init_1 : decode cX4_init 1 = .ok (.invokespecial 1, 3) := by decide +kernel
theorem dX4_init_4 : decode cX4_init 4 = .ok (.aload_n 0, 1) := by decide +kernel
theorem dX4_init_5 : decode cX4_init 5 = .ok (.bipush 60, 2) := by decide +kernel
theorem dX4_init_7 : decode cX4_init 7 = .ok (.newarray .int, 2) := by decide +kernel
theorem dX4_init_9 : decode cX4_init 9 = .ok (.putfield 7, 3) := by decide +kernel
theorem dX4_init_12 : decode cX4_init 12 = .ok (.aload_n 0, 1) := by decide +kernel
theorem dX4_init_13 : decode cX4_init 13 = .ok (.bipush 60, 2) := by decide +kernel
theorem dX4_init_15 : decode cX4_init 15 = .ok (.newarray .int, 2) := by decide +kernel
theorem dX4_init_17 : decode cX4_init 17 = .ok (.putfield 13, 3) := by decide +kernel
theorem dX4_init_20 : decode cX4_init 20 = .ok (.aload_n 0, 1) := by decide +kernel
theorem dX4_init_21 : decode cX4_init 21 = .ok (.bipush 60, 2) := by decide +kernel
theorem dX4_init_23 : decode cX4_init 23 = .ok (.newarray .int, 2) := by decide +kernel
theorem dX4_init_25 : decode cX4_init 25 = .ok (.putfield 16, 3) := by decide +kernel
theorem dX4_init_28 : decode cX4_init 28 = .ok (.aload_n 0, 1) := by decide +kernel
theorem dX4_init_29 : decode cX4_init 29 = .ok (.bipush 60, 2) := by decide +kernel
theorem dX4_init_31 : decode cX4_init 31 = .ok (.newarray .int, 2) := by decide +kernel
theorem dX4_init_33 : decode cX4_init 33 = .ok (.putfield 19, 3) := by decide +kernel
theorem dX4_init_36 : decode cX4_init 36 = .ok (.aload_n 0, 1) := by decide +kernel
theorem dX4_init_37 : decode cX4_init 37 = .ok (.bipush 7, 2) := by decide +kernel
theorem dX4_init_39 : decode cX4_init 39 = .ok (.newarray .int, 2) := by decide +kernel
theorem dX4_init_41 : decode cX4_init 41 = .ok (.putfield 22, 3) := by decide +kernel
theorem dX4_init_44 : decode cX4_init 44 = .ok (.aload_n 0, 1) := by decide +kernel
theorem dX4_init_45 : decode cX4_init 45 = .ok (.bipush 120, 2) := by decide +kernel
theorem dX4_init_47 : decode cX4_init 47 = .ok (.newarray .int, 2) := by decide +kernel
theorem dX4_init_49 : decode cX4_init 49 = .ok (.putfield 25, 3) := by decide +kernel
theorem dX4_init_52 : decode cX4_init 52 = .ok (.aload_n 0, 1) := by decide +kernel
theorem dX4_init_53 : decode cX4_init 53 = .ok (.iconst 4, 1) := by decide +kernel
theorem dX4_init_54 : decode cX4_init 54 = .ok (.newarray .int, 2) := by decide +kernel
theorem dX4_init_56 : decode cX4_init 56 = .ok (.putfield 28, 3) := by decide +kernel
theorem dX4_init_59 : decode cX4_init 59 = .ok (.aload_n 0, 1) := by decide +kernel
theorem dX4_init_60 : decode cX4_init 60 = .ok (.iconst 4, 1) := by decide +kernel
theorem dX4_init_61 : decode cX4_init 61 = .ok (.newarray .int, 2) := by decide +kernel
theorem dX4_init_63 : decode cX4_init 63 = .ok (.putfield 31, 3) := by decide +kernel
theorem dX4_init_66 : decode cX4_init 66 = .ok (.aload_n 0, 1) := by decide +kernel
theorem dX4_init_67 : decode cX4_init 67 = .ok (.sipush 160, 3) := by decide +kernel
theorem dX4_init_70 : decode cX4_init 70 = .ok (.newarray .long, 2) := by decide +kernel
theorem dX4_init_72 : decode cX4_init 72 = .ok (.putfield 34, 3) := by decide +kernel
theorem dX4_init_75 : decode cX4_init 75 = .ok (.aload_n 0, 1) := by decide +kernel
theorem dX4_init_76 : decode cX4_init 76 = .ok (.bipush 40, 2) := by decide +kernel
theorem dX4_init_78 : decode cX4_init 78 = .ok (.newarray .long, 2) := by decide +kernel
theorem dX4_init_80 : decode cX4_init 80 = .ok (.putfield 38, 3) := by decide +kernel
theorem dX4_init_83 : decode cX4_init 83 = .ok (.aload_n 0, 1) := by decide +kernel
theorem dX4_init_84 : decode cX4_init 84 = .ok (.getfield 7, 3) := by decide +kernel
theorem dX4_init_87 : decode cX4_init 87 = .ok (.iconst 3, 1) := by decide +kernel
theorem dX4_init_88 : decode cX4_init 88 = .ok (.bipush 35, 2) := by decide +kernel
theorem dX4_init_90 : decode cX4_init 90 = .ok (.iastore, 1) := by decide +kernel
theorem dX4_init_91 : decode cX4_init 91 = .ok (.return_, 1) := by decide +kernel
theorem dX4_in_0 : decode cX4_in 0 = .ok (.lload_n 0, 1) := by decide +kernel
theorem dX4_in_1 : decode cX4_in 1 = .ok (.lload_n 2, 1) := by decide +kernel
theorem dX4_in_2 : decode cX4_in 2 = .ok (.lcmp, 1) := by decide +kernel
theorem dX4_in_3 : decode cX4_in 3 = .ok (.ifCond .lt 14, 3) := by decide +kernel
theorem dX4_in_6 : decode cX4_in 6 = .ok (.lload_n 0, 1) := by decide +kernel
theorem dX4_in_7 : decode cX4_in 7 = .ok (.lload 4, 2) := by decide +kernel
theorem dX4_in_9 : decode cX4_in 9 = .ok (.lcmp, 1) := by decide +kernel
theorem dX4_in_10 : decode cX4_in 10 = .ok (.ifCond .gt 7, 3) := by decide +kernel
theorem dX4_in_13 : decode cX4_in 13 = .ok (.iconst 1, 1) := by decide +kernel
theorem dX4_in_14 : decode cX4_in 14 = .ok (.goto 4, 3) := by decide +kernel
theorem dX4_in_17 : decode cX4_in 17 = .ok (.iconst 0, 1) := by decide +kernel
theorem dX4_in_18 : decode cX4_in 18 = .ok (.ireturn, 1) := by decide +kernel
theorem dX4_finds_0 : decode cX4_finds 0 = .ok (.aload_n 0, 1) := by decide +kernel
theorem dX4_finds_1 : decode cX4_finds 1 = .ok (.getfield 22, 3) := by decide +kernel
theorem dX4_finds_4 : decode cX4_finds 4 = .ok (.ldc 41, 2) := by decide +kernel
theorem dX4_finds_6 : decode cX4_finds 6 = .ok (.iload_n 1, 1) := by decide +kernel
theorem dX4_finds_7 : decode cX4_finds 7 = .ok (.isub, 1) := by decide +kernel
theorem dX4_finds_8 : decode cX4_finds 8 = .ok (.dup2, 1) := by decide +kernel
theorem dX4_finds_9 : decode cX4_finds 9 = .ok (.iaload, 1) := by decide +kernel
theorem dX4_finds_10 : decode cX4_finds 10 = .ok (.iconst 1, 1) := by decide +kernel
theorem dX4_finds_11 : decode cX4_finds 11 = .ok (.iadd, 1) := by decide +kernel
theorem dX4_finds_12 : decode cX4_finds 12 = .ok (.iastore, 1) := by decide +kernel
theorem dX4_finds_13 : decode cX4_finds 13 = .ok (.iload_n 1, 1) := by decide +kernel
theorem dX4_finds_14 : decode cX4_finds 14 = .ok (.ireturn, 1) := by decide +kernel
theorem dX4_saves_0 : decode cX4_saves 0 = .ok (.iconst 0, 1) := by decide +kernel
theorem dX4_saves_1 : decode cX4_saves 1 = .ok (.istore_n 1, 1) := by decide +kernel
theorem dX4_saves_2 : decode cX4_saves 2 = .ok (.iload_n 1, 1) := by decide +kernel
theorem dX4_saves_3 : decode cX4_saves 3 = .ok (.bipush 60, 2) := by decide +kernel
theorem dX4_saves_5 : decode cX4_saves 5 = .ok (.if_icmp .ge 21, 3) := by decide +kernel
theorem dX4_saves_8 : decode cX4_saves 8 = .ok (.aload_n 0, 1) := by decide +kernel
theorem dX4_saves_9 : decode cX4_saves 9 = .ok (.getfield 16, 3) := by decide +kernel
theorem dX4_saves_12 : decode cX4_saves 12 = .ok (.iload_n 1, 1) := by decide +kernel
theorem dX4_saves_13 : decode cX4_saves 13 = .ok (.aload_n 0, 1) := by decide +kernel
theorem dX4_saves_14 : decode cX4_saves 14 = .ok (.getfield 7, 3) := by decide +kernel
theorem dX4_saves_17 : decode cX4_saves 17 = .ok (.iload_n 1, 1) := by decide +kernel
theorem dX4_saves_18 : decode cX4_saves 18 = .ok (.iaload, 1) := by decide +kernel
theorem dX4_saves_19 : decode cX4_saves 19 = .ok (.iastore, 1) := by decide +kernel
theorem dX4_saves_20 : decode cX4_saves 20 = .ok (.iinc 1 1, 3) := by decide +kernel
theorem dX4_saves_23 : decode cX4_saves 23 = .ok (.goto (-21), 3) := by decide +kernel
theorem dX4_saves_26 : decode cX4_saves 26 = .ok (.return_, 1) := by decide +kernel
theorem dX4_putsBack_0 : decode cX4_putsBack 0 = .ok (.iconst 0, 1) := by decide +kernel
theorem dX4_putsBack_1 : decode cX4_putsBack 1 = .ok (.istore_n 1, 1) := by decide +kernel
theorem dX4_putsBack_2 : decode cX4_putsBack 2 = .ok (.iload_n 1, 1) := by decide +kernel
theorem dX4_putsBack_3 : decode cX4_putsBack 3 = .ok (.bipush 60, 2) := by decide +kernel
theorem dX4_putsBack_5 : decode cX4_putsBack 5 = .ok (.if_icmp .ge 21, 3) := by decide +kernel
theorem dX4_putsBack_8 : decode cX4_putsBack 8 = .ok (.aload_n 0, 1) := by decide +kernel
theorem dX4_putsBack_9 : decode cX4_putsBack 9 = .ok (.getfield 7, 3) := by decide +kernel
theorem dX4_putsBack_12 : decode cX4_putsBack 12 = .ok (.iload_n 1, 1) := by decide +kernel
theorem dX4_putsBack_13 : decode cX4_putsBack 13 = .ok (.aload_n 0, 1) := by decide +kernel
theorem dX4_putsBack_14 : decode cX4_putsBack 14 = .ok (.getfield 16, 3) := by decide +kernel
theorem dX4_putsBack_17 : decode cX4_putsBack 17 = .ok (.iload_n 1, 1) := by decide +kernel
theorem dX4_putsBack_18 : decode cX4_putsBack 18 = .ok (.iaload, 1) := by decide +kernel
theorem dX4_putsBack_19 : decode cX4_putsBack 19 = .ok (.iastore, 1) := by decide +kernel
theorem dX4_putsBack_20 : decode cX4_putsBack 20 = .ok (.iinc 1 1, 3) := by decide +kernel
theorem dX4_putsBack_23 : decode cX4_putsBack 23 = .ok (.goto (-21), 3) := by decide +kernel
theorem dX4_putsBack_26 : decode cX4_putsBack 26 = .ok (.return_, 1) := by decide +kernel
theorem dX4_laysAside_0 : decode cX4_laysAside 0 = .ok (.iconst 0, 1) := by decide +kernel
theorem dX4_laysAside_1 : decode cX4_laysAside 1 = .ok (.istore_n 1, 1) := by decide +kernel
theorem dX4_laysAside_2 : decode cX4_laysAside 2 = .ok (.iload_n 1, 1) := by decide +kernel
theorem dX4_laysAside_3 : decode cX4_laysAside 3 = .ok (.bipush 60, 2) := by decide +kernel
theorem dX4_laysAside_5 : decode cX4_laysAside 5 = .ok (.if_icmp .ge 21, 3) := by decide +kernel
theorem dX4_laysAside_8 : decode cX4_laysAside 8 = .ok (.aload_n 0, 1) := by decide +kernel
theorem dX4_laysAside_9 : decode cX4_laysAside 9 = .ok (.getfield 19, 3) := by decide +kernel
theorem dX4_laysAside_12 : decode cX4_laysAside 12 = .ok (.iload_n 1, 1) := by decide +kernel
theorem dX4_laysAside_13 : decode cX4_laysAside 13 = .ok (.aload_n 0, 1) := by decide +kernel
theorem dX4_laysAside_14 : decode cX4_laysAside 14 = .ok (.getfield 7, 3) := by decide +kernel
theorem dX4_laysAside_17 : decode cX4_laysAside 17 = .ok (.iload_n 1, 1) := by decide +kernel
theorem dX4_laysAside_18 : decode cX4_laysAside 18 = .ok (.iaload, 1) := by decide +kernel
theorem dX4_laysAside_19 : decode cX4_laysAside 19 = .ok (.iastore, 1) := by decide +kernel
theorem dX4_laysAside_20 : decode cX4_laysAside 20 = .ok (.iinc 1 1, 3) := by decide +kernel
theorem dX4_laysAside_23 : decode cX4_laysAside 23 = .ok (.goto (-21), 3) := by decide +kernel
theorem dX4_laysAside_26 : decode cX4_laysAside 26 = .ok (.return_, 1) := by decide +kernel
theorem dX4_takesBack_0 : decode cX4_takesBack 0 = .ok (.iconst 0, 1) := by decide +kernel
theorem dX4_takesBack_1 : decode cX4_takesBack 1 = .ok (.istore_n 2, 1) := by decide +kernel
theorem dX4_takesBack_2 : decode cX4_takesBack 2 = .ok (.iload_n 2, 1) := by decide +kernel
theorem dX4_takesBack_3 : decode cX4_takesBack 3 = .ok (.bipush 60, 2) := by decide +kernel
theorem dX4_takesBack_5 : decode cX4_takesBack 5 = .ok (.if_icmp .ge 21, 3) := by decide +kernel
theorem dX4_takesBack_8 : decode cX4_takesBack 8 = .ok (.aload_n 0, 1) := by decide +kernel
theorem dX4_takesBack_9 : decode cX4_takesBack 9 = .ok (.getfield 7, 3) := by decide +kernel
theorem dX4_takesBack_12 : decode cX4_takesBack 12 = .ok (.iload_n 2, 1) := by decide +kernel
theorem dX4_takesBack_13 : decode cX4_takesBack 13 = .ok (.aload_n 0, 1) := by decide +kernel
theorem dX4_takesBack_14 : decode cX4_takesBack 14 = .ok (.getfield 19, 3) := by decide +kernel
theorem dX4_takesBack_17 : decode cX4_takesBack 17 = .ok (.iload_n 2, 1) := by decide +kernel
theorem dX4_takesBack_18 : decode cX4_takesBack 18 = .ok (.iaload, 1) := by decide +kernel
theorem dX4_takesBack_19 : decode cX4_takesBack 19 = .ok (.iastore, 1) := by decide +kernel
theorem dX4_takesBack_20 : decode cX4_takesBack 20 = .ok (.iinc 2 1, 3) := by decide +kernel
theorem dX4_takesBack_23 : decode cX4_takesBack 23 = .ok (.goto (-21), 3) := by decide +kernel
theorem dX4_takesBack_26 : decode cX4_takesBack 26 = .ok (.iload_n 1, 1) := by decide +kernel
theorem dX4_takesBack_27 : decode cX4_takesBack 27 = .ok (.ireturn, 1) := by decide +kernel
theorem dX4_becomes_0 : decode cX4_becomes 0 = .ok (.aload_n 0, 1) := by decide +kernel
theorem dX4_becomes_1 : decode cX4_becomes 1 = .ok (.getfield 7, 3) := by decide +kernel
theorem dX4_becomes_4 : decode cX4_becomes 4 = .ok (.iload_n 1, 1) := by decide +kernel
theorem dX4_becomes_5 : decode cX4_becomes 5 = .ok (.iaload, 1) := by decide +kernel
theorem dX4_becomes_6 : decode cX4_becomes 6 = .ok (.istore_n 3, 1) := by decide +kernel
theorem dX4_becomes_7 : decode cX4_becomes 7 = .ok (.aload_n 0, 1) := by decide +kernel
theorem dX4_becomes_8 : decode cX4_becomes 8 = .ok (.getfield 7, 3) := by decide +kernel
theorem dX4_becomes_11 : decode cX4_becomes 11 = .ok (.iload_n 1, 1) := by decide +kernel
theorem dX4_becomes_12 : decode cX4_becomes 12 = .ok (.iload_n 2, 1) := by decide +kernel
theorem dX4_becomes_13 : decode cX4_becomes 13 = .ok (.iastore, 1) := by decide +kernel
theorem dX4_becomes_14 : decode cX4_becomes 14 = .ok (.iload_n 3, 1) := by decide +kernel
theorem dX4_becomes_15 : decode cX4_becomes 15 = .ok (.ireturn, 1) := by decide +kernel
theorem dX4_isCell_0 : decode cX4_isCell 0 = .ok (.iload_n 0, 1) := by decide +kernel
theorem dX4_isCell_1 : decode cX4_isCell 1 = .ok (.i2l, 1) := by decide +kernel
theorem dX4_isCell_2 : decode cX4_isCell 2 = .ok (.lconst 0, 1) := by decide +kernel
theorem dX4_isCell_3 : decode cX4_isCell 3 = .ok (.ldc2_w 42, 3) := by decide +kernel
theorem dX4_isCell_6 : decode cX4_isCell 6 = .ok (.invokestatic 44, 3) := by decide +kernel
theorem dX4_isCell_9 : decode cX4_isCell 9 = .ok (.ireturn, 1) := by decide +kernel
theorem dX4_isWalker_0 : decode cX4_isWalker 0 = .ok (.iload_n 1, 1) := by decide +kernel
theorem dX4_isWalker_1 : decode cX4_isWalker 1 = .ok (.i2l, 1) := by decide +kernel
theorem dX4_isWalker_2 : decode cX4_isWalker 2 = .ok (.lconst 0, 1) := by decide +kernel
theorem dX4_isWalker_3 : decode cX4_isWalker 3 = .ok (.aload_n 0, 1) := by decide +kernel
theorem dX4_isWalker_4 : decode cX4_isWalker 4 = .ok (.getfield 7, 3) := by decide +kernel
theorem dX4_isWalker_7 : decode cX4_isWalker 7 = .ok (.iconst 0, 1) := by decide +kernel
theorem dX4_isWalker_8 : decode cX4_isWalker 8 = .ok (.iaload, 1) := by decide +kernel
theorem dX4_isWalker_9 : decode cX4_isWalker 9 = .ok (.iconst 1, 1) := by decide +kernel
theorem dX4_isWalker_10 : decode cX4_isWalker 10 = .ok (.isub, 1) := by decide +kernel
theorem dX4_isWalker_11 : decode cX4_isWalker 11 = .ok (.i2l, 1) := by decide +kernel
theorem dX4_isWalker_12 : decode cX4_isWalker 12 = .ok (.invokestatic 44, 3) := by decide +kernel
theorem dX4_isWalker_15 : decode cX4_isWalker 15 = .ok (.ireturn, 1) := by decide +kernel
theorem dX4_areTwo_0 : decode cX4_areTwo 0 = .ok (.aload_n 0, 1) := by decide +kernel
theorem dX4_areTwo_1 : decode cX4_areTwo 1 = .ok (.iload_n 1, 1) := by decide +kernel
theorem dX4_areTwo_2 : decode cX4_areTwo 2 = .ok (.invokevirtual 48, 3) := by decide +kernel
theorem dX4_areTwo_5 : decode cX4_areTwo 5 = .ok (.ifCond .eq 20, 3) := by decide +kernel
theorem dX4_areTwo_8 : decode cX4_areTwo 8 = .ok (.aload_n 0, 1) := by decide +kernel
theorem dX4_areTwo_9 : decode cX4_areTwo 9 = .ok (.iload_n 2, 1) := by decide +kernel
theorem dX4_areTwo_10 : decode cX4_areTwo 10 = .ok (.invokevirtual 48, 3) := by decide +kernel
theorem dX4_areTwo_13 : decode cX4_areTwo 13 = .ok (.ifCond .eq 12, 3) := by decide +kernel
theorem dX4_areTwo_16 : decode cX4_areTwo 16 = .ok (.iload_n 1, 1) := by decide +kernel
theorem dX4_areTwo_17 : decode cX4_areTwo 17 = .ok (.iload_n 2, 1) := by decide +kernel
theorem dX4_areTwo_18 : decode cX4_areTwo 18 = .ok (.if_icmp .eq 7, 3) := by decide +kernel
theorem dX4_areTwo_21 : decode cX4_areTwo 21 = .ok (.iconst 1, 1) := by decide +kernel
theorem dX4_areTwo_22 : decode cX4_areTwo 22 = .ok (.goto 4, 3) := by decide +kernel
theorem dX4_areTwo_25 : decode cX4_areTwo 25 = .ok (.iconst 0, 1) := by decide +kernel
theorem dX4_areTwo_26 : decode cX4_areTwo 26 = .ok (.ireturn, 1) := by decide +kernel
theorem dX4_isKind_0 : decode cX4_isKind 0 = .ok (.iload_n 0, 1) := by decide +kernel
theorem dX4_isKind_1 : decode cX4_isKind 1 = .ok (.i2l, 1) := by decide +kernel
theorem dX4_isKind_2 : decode cX4_isKind 2 = .ok (.lconst 0, 1) := by decide +kernel
theorem dX4_isKind_3 : decode cX4_isKind 3 = .ok (.ldc2_w 52, 3) := by decide +kernel
theorem dX4_isKind_6 : decode cX4_isKind 6 = .ok (.invokestatic 44, 3) := by decide +kernel
theorem dX4_isKind_9 : decode cX4_isKind 9 = .ok (.ireturn, 1) := by decide +kernel
theorem dX4_spotOf_0 : decode cX4_spotOf 0 = .ok (.iconst 4, 1) := by decide +kernel
theorem dX4_spotOf_1 : decode cX4_spotOf 1 = .ok (.bipush 7, 2) := by decide +kernel
theorem dX4_spotOf_3 : decode cX4_spotOf 3 = .ok (.iload_n 0, 1) := by decide +kernel
theorem dX4_spotOf_4 : decode cX4_spotOf 4 = .ok (.imul, 1) := by decide +kernel
theorem dX4_spotOf_5 : decode cX4_spotOf 5 = .ok (.iadd, 1) := by decide +kernel
theorem dX4_spotOf_6 : decode cX4_spotOf 6 = .ok (.iload_n 1, 1) := by decide +kernel
theorem dX4_spotOf_7 : decode cX4_spotOf 7 = .ok (.iadd, 1) := by decide +kernel
theorem dX4_spotOf_8 : decode cX4_spotOf 8 = .ok (.ireturn, 1) := by decide +kernel
theorem dX4_its_0 : decode cX4_its 0 = .ok (.aload_n 0, 1) := by decide +kernel
theorem dX4_its_1 : decode cX4_its 1 = .ok (.getfield 7, 3) := by decide +kernel
theorem dX4_its_4 : decode cX4_its 4 = .ok (.iload_n 1, 1) := by decide +kernel
theorem dX4_its_5 : decode cX4_its 5 = .ok (.iload_n 2, 1) := by decide +kernel
theorem dX4_its_6 : decode cX4_its 6 = .ok (.invokestatic 54, 3) := by decide +kernel
theorem dX4_its_9 : decode cX4_its 9 = .ok (.iaload, 1) := by decide +kernel
theorem dX4_its_10 : decode cX4_its 10 = .ok (.ireturn, 1) := by decide +kernel
theorem dX4_isFree_0 : decode cX4_isFree 0 = .ok (.aload_n 0, 1) := by decide +kernel
theorem dX4_isFree_1 : decode cX4_isFree 1 = .ok (.iload_n 1, 1) := by decide +kernel
theorem dX4_isFree_2 : decode cX4_isFree 2 = .ok (.iconst 5, 1) := by decide +kernel
theorem dX4_isFree_3 : decode cX4_isFree 3 = .ok (.invokevirtual 58, 3) := by decide +kernel
theorem dX4_isFree_6 : decode cX4_isFree 6 = .ok (.iconst (-1), 1) := by decide +kernel
theorem dX4_isFree_7 : decode cX4_isFree 7 = .ok (.if_icmp .ne 7, 3) := by decide +kernel
theorem dX4_isFree_10 : decode cX4_isFree 10 = .ok (.iconst 1, 1) := by decide +kernel
theorem dX4_isFree_11 : decode cX4_isFree 11 = .ok (.goto 4, 3) := by decide +kernel
theorem dX4_isFree_14 : decode cX4_isFree 14 = .ok (.iconst 0, 1) := by decide +kernel
theorem dX4_isFree_15 : decode cX4_isFree 15 = .ok (.ireturn, 1) := by decide +kernel
theorem dX4_fog_0 : decode cX4_fog 0 = .ok (.iload_n 1, 1) := by decide +kernel
theorem dX4_fog_1 : decode cX4_fog 1 = .ok (.i2l, 1) := by decide +kernel
theorem dX4_fog_2 : decode cX4_fog 2 = .ok (.lconst 0, 1) := by decide +kernel
theorem dX4_fog_3 : decode cX4_fog 3 = .ok (.ldc2_w 61, 3) := by decide +kernel
theorem dX4_fog_6 : decode cX4_fog 6 = .ok (.invokestatic 44, 3) := by decide +kernel
theorem dX4_fog_9 : decode cX4_fog 9 = .ok (.ifCond .eq 12, 3) := by decide +kernel
theorem dX4_fog_12 : decode cX4_fog 12 = .ok (.aload_n 0, 1) := by decide +kernel
theorem dX4_fog_13 : decode cX4_fog 13 = .ok (.iconst 2, 1) := by decide +kernel
theorem dX4_fog_14 : decode cX4_fog 14 = .ok (.iload_n 1, 1) := by decide +kernel
theorem dX4_fog_15 : decode cX4_fog 15 = .ok (.invokevirtual 63, 3) := by decide +kernel
theorem dX4_fog_18 : decode cX4_fog 18 = .ok (.goto 9, 3) := by decide +kernel
theorem dX4_fog_21 : decode cX4_fog 21 = .ok (.aload_n 0, 1) := by decide +kernel
theorem dX4_fog_22 : decode cX4_fog 22 = .ok (.ldc 41, 2) := by decide +kernel
theorem dX4_fog_24 : decode cX4_fog 24 = .ok (.invokevirtual 66, 3) := by decide +kernel
theorem dX4_fog_27 : decode cX4_fog 27 = .ok (.ireturn, 1) := by decide +kernel
theorem dX4_village_0 : decode cX4_village 0 = .ok (.iload_n 1, 1) := by decide +kernel
theorem dX4_village_1 : decode cX4_village 1 = .ok (.invokestatic 70, 3) := by decide +kernel
theorem dX4_village_4 : decode cX4_village 4 = .ok (.ifCond .eq 12, 3) := by decide +kernel
theorem dX4_village_7 : decode cX4_village 7 = .ok (.aload_n 0, 1) := by decide +kernel
theorem dX4_village_8 : decode cX4_village 8 = .ok (.iconst 3, 1) := by decide +kernel
theorem dX4_village_9 : decode cX4_village 9 = .ok (.iload_n 1, 1) := by decide +kernel
theorem dX4_village_10 : decode cX4_village 10 = .ok (.invokevirtual 63, 3) := by decide +kernel
theorem dX4_village_13 : decode cX4_village 13 = .ok (.goto 9, 3) := by decide +kernel
theorem dX4_village_16 : decode cX4_village 16 = .ok (.aload_n 0, 1) := by decide +kernel
theorem dX4_village_17 : decode cX4_village 17 = .ok (.ldc 41, 2) := by decide +kernel
theorem dX4_village_19 : decode cX4_village 19 = .ok (.invokevirtual 66, 3) := by decide +kernel
theorem dX4_village_22 : decode cX4_village 22 = .ok (.ireturn, 1) := by decide +kernel
theorem dX4_thoseAt_0 : decode cX4_thoseAt 0 = .ok (.iconst 0, 1) := by decide +kernel
theorem dX4_thoseAt_1 : decode cX4_thoseAt 1 = .ok (.istore_n 2, 1) := by decide +kernel
theorem dX4_thoseAt_2 : decode cX4_thoseAt 2 = .ok (.iconst 0, 1) := by decide +kernel
theorem dX4_thoseAt_3 : decode cX4_thoseAt 3 = .ok (.istore_n 3, 1) := by decide +kernel
theorem dX4_thoseAt_4 : decode cX4_thoseAt 4 = .ok (.iload_n 3, 1) := by decide +kernel
theorem dX4_thoseAt_5 : decode cX4_thoseAt 5 = .ok (.aload_n 0, 1) := by decide +kernel
theorem dX4_thoseAt_6 : decode cX4_thoseAt 6 = .ok (.getfield 7, 3) := by decide +kernel
theorem dX4_thoseAt_9 : decode cX4_thoseAt 9 = .ok (.iconst 0, 1) := by decide +kernel
theorem dX4_thoseAt_10 : decode cX4_thoseAt 10 = .ok (.iaload, 1) := by decide +kernel
theorem dX4_thoseAt_11 : decode cX4_thoseAt 11 = .ok (.if_icmp .ge 29, 3) := by decide +kernel
theorem dX4_thoseAt_14 : decode cX4_thoseAt 14 = .ok (.iload_n 2, 1) := by decide +kernel
theorem dX4_thoseAt_15 : decode cX4_thoseAt 15 = .ok (.aload_n 0, 1) := by decide +kernel
theorem dX4_thoseAt_16 : decode cX4_thoseAt 16 = .ok (.iload_n 3, 1) := by decide +kernel
theorem dX4_thoseAt_17 : decode cX4_thoseAt 17 = .ok (.iconst 1, 1) := by decide +kernel
theorem dX4_thoseAt_18 : decode cX4_thoseAt 18 = .ok (.invokevirtual 58, 3) := by decide +kernel
theorem dX4_thoseAt_21 : decode cX4_thoseAt 21 = .ok (.iload_n 1, 1) := by decide +kernel
theorem dX4_thoseAt_22 : decode cX4_thoseAt 22 = .ok (.if_icmp .ne 9, 3) := by decide +kernel
theorem dX4_thoseAt_25 : decode cX4_thoseAt 25 = .ok (.iconst 1, 1) := by decide +kernel
theorem dX4_thoseAt_26 : decode cX4_thoseAt 26 = .ok (.iload_n 3, 1) := by decide +kernel
theorem dX4_thoseAt_27 : decode cX4_thoseAt 27 = .ok (.ishl, 1) := by decide +kernel
theorem dX4_thoseAt_28 : decode cX4_thoseAt 28 = .ok (.goto 4, 3) := by decide +kernel
theorem dX4_thoseAt_31 : decode cX4_thoseAt 31 = .ok (.iconst 0, 1) := by decide +kernel
theorem dX4_thoseAt_32 : decode cX4_thoseAt 32 = .ok (.ior, 1) := by decide +kernel
theorem dX4_thoseAt_33 : decode cX4_thoseAt 33 = .ok (.istore_n 2, 1) := by decide +kernel
theorem dX4_thoseAt_34 : decode cX4_thoseAt 34 = .ok (.iinc 3 1, 3) := by decide +kernel
theorem dX4_thoseAt_37 : decode cX4_thoseAt 37 = .ok (.goto (-33), 3) := by decide +kernel
theorem dX4_thoseAt_40 : decode cX4_thoseAt 40 = .ok (.iload_n 2, 1) := by decide +kernel
theorem dX4_thoseAt_41 : decode cX4_thoseAt 41 = .ok (.ireturn, 1) := by decide +kernel
theorem dX4_at_0 : decode cX4_at 0 = .ok (.iload_n 1, 1) := by decide +kernel
theorem dX4_at_1 : decode cX4_at 1 = .ok (.invokestatic 70, 3) := by decide +kernel
theorem dX4_at_4 : decode cX4_at 4 = .ok (.ifCond .eq 11, 3) := by decide +kernel
theorem dX4_at_7 : decode cX4_at 7 = .ok (.aload_n 0, 1) := by decide +kernel
theorem dX4_at_8 : decode cX4_at 8 = .ok (.iload_n 1, 1) := by decide +kernel
theorem dX4_at_9 : decode cX4_at 9 = .ok (.invokevirtual 73, 3) := by decide +kernel
theorem dX4_at_12 : decode cX4_at 12 = .ok (.goto 9, 3) := by decide +kernel
theorem dX4_at_15 : decode cX4_at 15 = .ok (.aload_n 0, 1) := by decide +kernel
theorem dX4_at_16 : decode cX4_at 16 = .ok (.ldc 41, 2) := by decide +kernel
theorem dX4_at_18 : decode cX4_at 18 = .ok (.invokevirtual 66, 3) := by decide +kernel
theorem dX4_at_21 : decode cX4_at 21 = .ok (.ireturn, 1) := by decide +kernel
theorem dX4_adds_0 : decode cX4_adds 0 = .ok (.aload_n 0, 1) := by decide +kernel
theorem dX4_adds_1 : decode cX4_adds 1 = .ok (.getfield 7, 3) := by decide +kernel
theorem dX4_adds_4 : decode cX4_adds 4 = .ok (.iconst 0, 1) := by decide +kernel
theorem dX4_adds_5 : decode cX4_adds 5 = .ok (.iaload, 1) := by decide +kernel
theorem dX4_adds_6 : decode cX4_adds 6 = .ok (.istore_n 3, 1) := by decide +kernel
theorem dX4_adds_7 : decode cX4_adds 7 = .ok (.aload_n 0, 1) := by decide +kernel
theorem dX4_adds_8 : decode cX4_adds 8 = .ok (.getfield 7, 3) := by decide +kernel
theorem dX4_adds_11 : decode cX4_adds 11 = .ok (.iload_n 3, 1) := by decide +kernel
theorem dX4_adds_12 : decode cX4_adds 12 = .ok (.iconst 0, 1) := by decide +kernel
theorem dX4_adds_13 : decode cX4_adds 13 = .ok (.invokestatic 54, 3) := by decide +kernel
theorem dX4_adds_16 : decode cX4_adds 16 = .ok (.iload_n 1, 1) := by decide +kernel
theorem dX4_adds_17 : decode cX4_adds 17 = .ok (.iastore, 1) := by decide +kernel
theorem dX4_adds_18 : decode cX4_adds 18 = .ok (.aload_n 0, 1) := by decide +kernel
theorem dX4_adds_19 : decode cX4_adds 19 = .ok (.getfield 7, 3) := by decide +kernel
theorem dX4_adds_22 : decode cX4_adds 22 = .ok (.iload_n 3, 1) := by decide +kernel
theorem dX4_adds_23 : decode cX4_adds 23 = .ok (.iconst 1, 1) := by decide +kernel
theorem dX4_adds_24 : decode cX4_adds 24 = .ok (.invokestatic 54, 3) := by decide +kernel
theorem dX4_adds_27 : decode cX4_adds 27 = .ok (.iload_n 2, 1) := by decide +kernel
theorem dX4_adds_28 : decode cX4_adds 28 = .ok (.iastore, 1) := by decide +kernel
theorem dX4_adds_29 : decode cX4_adds 29 = .ok (.aload_n 0, 1) := by decide +kernel
theorem dX4_adds_30 : decode cX4_adds 30 = .ok (.getfield 7, 3) := by decide +kernel
theorem dX4_adds_33 : decode cX4_adds 33 = .ok (.iload_n 3, 1) := by decide +kernel
theorem dX4_adds_34 : decode cX4_adds 34 = .ok (.iconst 2, 1) := by decide +kernel
theorem dX4_adds_35 : decode cX4_adds 35 = .ok (.invokestatic 54, 3) := by decide +kernel
theorem dX4_adds_38 : decode cX4_adds 38 = .ok (.iload_n 2, 1) := by decide +kernel
theorem dX4_adds_39 : decode cX4_adds 39 = .ok (.iastore, 1) := by decide +kernel
theorem dX4_adds_40 : decode cX4_adds 40 = .ok (.aload_n 0, 1) := by decide +kernel
theorem dX4_adds_41 : decode cX4_adds 41 = .ok (.getfield 7, 3) := by decide +kernel
theorem dX4_adds_44 : decode cX4_adds 44 = .ok (.iload_n 3, 1) := by decide +kernel
theorem dX4_adds_45 : decode cX4_adds 45 = .ok (.iconst 3, 1) := by decide +kernel
theorem dX4_adds_46 : decode cX4_adds 46 = .ok (.invokestatic 54, 3) := by decide +kernel
theorem dX4_adds_49 : decode cX4_adds 49 = .ok (.iconst 0, 1) := by decide +kernel
theorem dX4_adds_50 : decode cX4_adds 50 = .ok (.iastore, 1) := by decide +kernel
theorem dX4_adds_51 : decode cX4_adds 51 = .ok (.aload_n 0, 1) := by decide +kernel
theorem dX4_adds_52 : decode cX4_adds 52 = .ok (.getfield 7, 3) := by decide +kernel
theorem dX4_adds_55 : decode cX4_adds 55 = .ok (.iload_n 3, 1) := by decide +kernel
theorem dX4_adds_56 : decode cX4_adds 56 = .ok (.iconst 4, 1) := by decide +kernel
theorem dX4_adds_57 : decode cX4_adds 57 = .ok (.invokestatic 54, 3) := by decide +kernel
theorem dX4_adds_60 : decode cX4_adds 60 = .ok (.iconst 0, 1) := by decide +kernel
theorem dX4_adds_61 : decode cX4_adds 61 = .ok (.iastore, 1) := by decide +kernel
theorem dX4_adds_62 : decode cX4_adds 62 = .ok (.aload_n 0, 1) := by decide +kernel
theorem dX4_adds_63 : decode cX4_adds 63 = .ok (.getfield 7, 3) := by decide +kernel
theorem dX4_adds_66 : decode cX4_adds 66 = .ok (.iload_n 3, 1) := by decide +kernel
theorem dX4_adds_67 : decode cX4_adds 67 = .ok (.iconst 5, 1) := by decide +kernel
theorem dX4_adds_68 : decode cX4_adds 68 = .ok (.invokestatic 54, 3) := by decide +kernel
theorem dX4_adds_71 : decode cX4_adds 71 = .ok (.iconst (-1), 1) := by decide +kernel
theorem dX4_adds_72 : decode cX4_adds 72 = .ok (.iastore, 1) := by decide +kernel
theorem dX4_adds_73 : decode cX4_adds 73 = .ok (.aload_n 0, 1) := by decide +kernel
theorem dX4_adds_74 : decode cX4_adds 74 = .ok (.getfield 7, 3) := by decide +kernel
theorem dX4_adds_77 : decode cX4_adds 77 = .ok (.iload_n 3, 1) := by decide +kernel
theorem dX4_adds_78 : decode cX4_adds 78 = .ok (.bipush 6, 2) := by decide +kernel
theorem dX4_adds_80 : decode cX4_adds 80 = .ok (.invokestatic 54, 3) := by decide +kernel
theorem dX4_adds_83 : decode cX4_adds 83 = .ok (.iconst (-1), 1) := by decide +kernel
theorem dX4_adds_84 : decode cX4_adds 84 = .ok (.iastore, 1) := by decide +kernel
theorem dX4_adds_85 : decode cX4_adds 85 = .ok (.aload_n 0, 1) := by decide +kernel
theorem dX4_adds_86 : decode cX4_adds 86 = .ok (.getfield 7, 3) := by decide +kernel
theorem dX4_adds_89 : decode cX4_adds 89 = .ok (.iconst 0, 1) := by decide +kernel
theorem dX4_adds_90 : decode cX4_adds 90 = .ok (.dup2, 1) := by decide +kernel
theorem dX4_adds_91 : decode cX4_adds 91 = .ok (.iaload, 1) := by decide +kernel
theorem dX4_adds_92 : decode cX4_adds 92 = .ok (.iconst 1, 1) := by decide +kernel
theorem dX4_adds_93 : decode cX4_adds 93 = .ok (.iadd, 1) := by decide +kernel
theorem dX4_adds_94 : decode cX4_adds 94 = .ok (.iastore, 1) := by decide +kernel
theorem dX4_adds_95 : decode cX4_adds 95 = .ok (.iload_n 3, 1) := by decide +kernel
theorem dX4_adds_96 : decode cX4_adds 96 = .ok (.ireturn, 1) := by decide +kernel
theorem dX4_walker_0 : decode cX4_walker 0 = .ok (.iload_n 1, 1) := by decide +kernel
theorem dX4_walker_1 : decode cX4_walker 1 = .ok (.invokestatic 76, 3) := by decide +kernel
theorem dX4_walker_4 : decode cX4_walker 4 = .ok (.ifCond .eq 10, 3) := by decide +kernel
theorem dX4_walker_7 : decode cX4_walker 7 = .ok (.iload_n 2, 1) := by decide +kernel
theorem dX4_walker_8 : decode cX4_walker 8 = .ok (.invokestatic 70, 3) := by decide +kernel
theorem dX4_walker_11 : decode cX4_walker 11 = .ok (.ifCond .ne 10, 3) := by decide +kernel
theorem dX4_walker_14 : decode cX4_walker 14 = .ok (.aload_n 0, 1) := by decide +kernel
theorem dX4_walker_15 : decode cX4_walker 15 = .ok (.ldc 41, 2) := by decide +kernel
theorem dX4_walker_17 : decode cX4_walker 17 = .ok (.invokevirtual 66, 3) := by decide +kernel
theorem dX4_walker_20 : decode cX4_walker 20 = .ok (.ireturn, 1) := by decide +kernel
theorem dX4_walker_21 : decode cX4_walker 21 = .ok (.aload_n 0, 1) := by decide +kernel
theorem dX4_walker_22 : decode cX4_walker 22 = .ok (.getfield 7, 3) := by decide +kernel
theorem dX4_walker_25 : decode cX4_walker 25 = .ok (.iconst 0, 1) := by decide +kernel
theorem dX4_walker_26 : decode cX4_walker 26 = .ok (.iaload, 1) := by decide +kernel
theorem dX4_walker_27 : decode cX4_walker 27 = .ok (.bipush 8, 2) := by decide +kernel
theorem dX4_walker_29 : decode cX4_walker 29 = .ok (.if_icmp .ne 12, 3) := by decide +kernel
theorem dX4_walker_32 : decode cX4_walker 32 = .ok (.aload_n 0, 1) := by decide +kernel
theorem dX4_walker_33 : decode cX4_walker 33 = .ok (.ldc 79, 2) := by decide +kernel
theorem dX4_walker_35 : decode cX4_walker 35 = .ok (.invokevirtual 66, 3) := by decide +kernel
theorem dX4_walker_38 : decode cX4_walker 38 = .ok (.goto 9, 3) := by decide +kernel
theorem dX4_walker_41 : decode cX4_walker 41 = .ok (.aload_n 0, 1) := by decide +kernel
theorem dX4_walker_42 : decode cX4_walker 42 = .ok (.iload_n 1, 1) := by decide +kernel
theorem dX4_walker_43 : decode cX4_walker 43 = .ok (.iload_n 2, 1) := by decide +kernel
theorem dX4_walker_44 : decode cX4_walker 44 = .ok (.invokevirtual 80, 3) := by decide +kernel
theorem dX4_walker_47 : decode cX4_walker 47 = .ok (.ireturn, 1) := by decide +kernel
theorem dX4_stepsOf_0 : decode cX4_stepsOf 0 = .ok (.aload_n 0, 1) := by decide +kernel
theorem dX4_stepsOf_1 : decode cX4_stepsOf 1 = .ok (.getfield 7, 3) := by decide +kernel
theorem dX4_stepsOf_4 : decode cX4_stepsOf 4 = .ok (.iconst 1, 1) := by decide +kernel
theorem dX4_stepsOf_5 : decode cX4_stepsOf 5 = .ok (.iaload, 1) := by decide +kernel
theorem dX4_stepsOf_6 : decode cX4_stepsOf 6 = .ok (.iconst 2, 1) := by decide +kernel
theorem dX4_stepsOf_7 : decode cX4_stepsOf 7 = .ok (.irem, 1) := by decide +kernel
theorem dX4_stepsOf_8 : decode cX4_stepsOf 8 = .ok (.ifCond .ne 7, 3) := by decide +kernel
theorem dX4_stepsOf_11 : decode cX4_stepsOf 11 = .ok (.iconst 1, 1) := by decide +kernel
theorem dX4_stepsOf_12 : decode cX4_stepsOf 12 = .ok (.goto 4, 3) := by decide +kernel
theorem dX4_stepsOf_15 : decode cX4_stepsOf 15 = .ok (.iconst 0, 1) := by decide +kernel
theorem dX4_stepsOf_16 : decode cX4_stepsOf 16 = .ok (.istore_n 2, 1) := by decide +kernel
theorem dX4_stepsOf_17 : decode cX4_stepsOf 17 = .ok (.aload_n 0, 1) := by decide +kernel
theorem dX4_stepsOf_18 : decode cX4_stepsOf 18 = .ok (.iload_n 1, 1) := by decide +kernel
theorem dX4_stepsOf_19 : decode cX4_stepsOf 19 = .ok (.iconst 0, 1) := by decide +kernel
theorem dX4_stepsOf_20 : decode cX4_stepsOf 20 = .ok (.invokevirtual 58, 3) := by decide +kernel
theorem dX4_stepsOf_23 : decode cX4_stepsOf 23 = .ok (.tableswitch 54 2 5 #[29, 31, 33, 35], 29) := by decide +kernel
theorem dX4_stepsOf_52 : decode cX4_stepsOf 52 = .ok (.iload_n 2, 1) := by decide +kernel
theorem dX4_stepsOf_53 : decode cX4_stepsOf 53 = .ok (.ireturn, 1) := by decide +kernel
theorem dX4_stepsOf_54 : decode cX4_stepsOf 54 = .ok (.iconst 0, 1) := by decide +kernel
theorem dX4_stepsOf_55 : decode cX4_stepsOf 55 = .ok (.ireturn, 1) := by decide +kernel
theorem dX4_stepsOf_56 : decode cX4_stepsOf 56 = .ok (.iconst 2, 1) := by decide +kernel
theorem dX4_stepsOf_57 : decode cX4_stepsOf 57 = .ok (.ireturn, 1) := by decide +kernel
theorem dX4_stepsOf_58 : decode cX4_stepsOf 58 = .ok (.aload_n 0, 1) := by decide +kernel
theorem dX4_stepsOf_59 : decode cX4_stepsOf 59 = .ok (.getfield 7, 3) := by decide +kernel
theorem dX4_stepsOf_62 : decode cX4_stepsOf 62 = .ok (.iconst 1, 1) := by decide +kernel
theorem dX4_stepsOf_63 : decode cX4_stepsOf 63 = .ok (.iaload, 1) := by decide +kernel
theorem dX4_stepsOf_64 : decode cX4_stepsOf 64 = .ok (.iconst 3, 1) := by decide +kernel
theorem dX4_stepsOf_65 : decode cX4_stepsOf 65 = .ok (.irem, 1) := by decide +kernel
theorem dX4_stepsOf_66 : decode cX4_stepsOf 66 = .ok (.ifCond .ne 9, 3) := by decide +kernel
theorem dX4_stepsOf_69 : decode cX4_stepsOf 69 = .ok (.iload_n 2, 1) := by decide +kernel
theorem dX4_stepsOf_70 : decode cX4_stepsOf 70 = .ok (.iconst 1, 1) := by decide +kernel
theorem dX4_stepsOf_71 : decode cX4_stepsOf 71 = .ok (.iadd, 1) := by decide +kernel
theorem dX4_stepsOf_72 : decode cX4_stepsOf 72 = .ok (.goto 4, 3) := by decide +kernel
theorem dX4_stepsOf_75 : decode cX4_stepsOf 75 = .ok (.iload_n 2, 1) := by decide +kernel
theorem dX4_stepsOf_76 : decode cX4_stepsOf 76 = .ok (.ireturn, 1) := by decide +kernel
theorem dX4_stepsOf_77 : decode cX4_stepsOf 77 = .ok (.iconst 1, 1) := by decide +kernel
theorem dX4_stepsOf_78 : decode cX4_stepsOf 78 = .ok (.ireturn, 1) := by decide +kernel
theorem dX4_turnsOf_0 : decode cX4_turnsOf 0 = .ok (.aload_n 0, 1) := by decide +kernel
theorem dX4_turnsOf_1 : decode cX4_turnsOf 1 = .ok (.iload_n 1, 1) := by decide +kernel
theorem dX4_turnsOf_2 : decode cX4_turnsOf 2 = .ok (.iconst 0, 1) := by decide +kernel
theorem dX4_turnsOf_3 : decode cX4_turnsOf 3 = .ok (.invokevirtual 58, 3) := by decide +kernel
theorem dX4_turnsOf_6 : decode cX4_turnsOf 6 = .ok (.tableswitch 71 1 5 #[34, 71, 51, 34, 53], 34) := by decide +kernel
theorem dX4_turnsOf_40 : decode cX4_turnsOf 40 = .ok (.aload_n 0, 1) := by decide +kernel
theorem dX4_turnsOf_41 : decode cX4_turnsOf 41 = .ok (.getfield 7, 3) := by decide +kernel
theorem dX4_turnsOf_44 : decode cX4_turnsOf 44 = .ok (.iconst 1, 1) := by decide +kernel
theorem dX4_turnsOf_45 : decode cX4_turnsOf 45 = .ok (.iaload, 1) := by decide +kernel
theorem dX4_turnsOf_46 : decode cX4_turnsOf 46 = .ok (.iconst 3, 1) := by decide +kernel
theorem dX4_turnsOf_47 : decode cX4_turnsOf 47 = .ok (.irem, 1) := by decide +kernel
theorem dX4_turnsOf_48 : decode cX4_turnsOf 48 = .ok (.ifCond .ne 7, 3) := by decide +kernel
theorem dX4_turnsOf_51 : decode cX4_turnsOf 51 = .ok (.iconst 1, 1) := by decide +kernel
theorem dX4_turnsOf_52 : decode cX4_turnsOf 52 = .ok (.goto 4, 3) := by decide +kernel
theorem dX4_turnsOf_55 : decode cX4_turnsOf 55 = .ok (.iconst 0, 1) := by decide +kernel
theorem dX4_turnsOf_56 : decode cX4_turnsOf 56 = .ok (.ireturn, 1) := by decide +kernel
theorem dX4_turnsOf_57 : decode cX4_turnsOf 57 = .ok (.iconst 1, 1) := by decide +kernel
theorem dX4_turnsOf_58 : decode cX4_turnsOf 58 = .ok (.ireturn, 1) := by decide +kernel
theorem dX4_turnsOf_59 : decode cX4_turnsOf 59 = .ok (.aload_n 0, 1) := by decide +kernel
theorem dX4_turnsOf_60 : decode cX4_turnsOf 60 = .ok (.getfield 7, 3) := by decide +kernel
theorem dX4_turnsOf_63 : decode cX4_turnsOf 63 = .ok (.iconst 1, 1) := by decide +kernel
theorem dX4_turnsOf_64 : decode cX4_turnsOf 64 = .ok (.iaload, 1) := by decide +kernel
theorem dX4_turnsOf_65 : decode cX4_turnsOf 65 = .ok (.iconst 4, 1) := by decide +kernel
theorem dX4_turnsOf_66 : decode cX4_turnsOf 66 = .ok (.irem, 1) := by decide +kernel
theorem dX4_turnsOf_67 : decode cX4_turnsOf 67 = .ok (.iconst 1, 1) := by decide +kernel
theorem dX4_turnsOf_68 : decode cX4_turnsOf 68 = .ok (.if_icmp .ne 7, 3) := by decide +kernel
theorem dX4_turnsOf_71 : decode cX4_turnsOf 71 = .ok (.iconst 2, 1) := by decide +kernel
theorem dX4_turnsOf_72 : decode cX4_turnsOf 72 = .ok (.goto 4, 3) := by decide +kernel
theorem dX4_turnsOf_75 : decode cX4_turnsOf 75 = .ok (.iconst 0, 1) := by decide +kernel
theorem dX4_turnsOf_76 : decode cX4_turnsOf 76 = .ok (.ireturn, 1) := by decide +kernel
theorem dX4_turnsOf_77 : decode cX4_turnsOf 77 = .ok (.iconst 0, 1) := by decide +kernel
theorem dX4_turnsOf_78 : decode cX4_turnsOf 78 = .ok (.ireturn, 1) := by decide +kernel
theorem dX4_of_0 : decode cX4_of 0 = .ok (.aload_n 0, 1) := by decide +kernel
theorem dX4_of_1 : decode cX4_of 1 = .ok (.iload_n 1, 1) := by decide +kernel
theorem dX4_of_2 : decode cX4_of 2 = .ok (.invokevirtual 48, 3) := by decide +kernel
theorem dX4_of_5 : decode cX4_of 5 = .ok (.ifCond .eq 15, 3) := by decide +kernel
theorem dX4_of_8 : decode cX4_of 8 = .ok (.iload_n 2, 1) := by decide +kernel
theorem dX4_of_9 : decode cX4_of 9 = .ok (.i2l, 1) := by decide +kernel
theorem dX4_of_10 : decode cX4_of 10 = .ok (.lconst 0, 1) := by decide +kernel
theorem dX4_of_11 : decode cX4_of 11 = .ok (.ldc2_w 83, 3) := by decide +kernel
theorem dX4_of_14 : decode cX4_of 14 = .ok (.invokestatic 44, 3) := by decide +kernel
theorem dX4_of_17 : decode cX4_of 17 = .ok (.ifCond .ne 10, 3) := by decide +kernel
theorem dX4_of_20 : decode cX4_of 20 = .ok (.aload_n 0, 1) := by decide +kernel
theorem dX4_of_21 : decode cX4_of 21 = .ok (.ldc 41, 2) := by decide +kernel
theorem dX4_of_23 : decode cX4_of 23 = .ok (.invokevirtual 66, 3) := by decide +kernel
theorem dX4_of_26 : decode cX4_of 26 = .ok (.ireturn, 1) := by decide +kernel
theorem dX4_of_27 : decode cX4_of 27 = .ok (.iload_n 2, 1) := by decide +kernel
theorem dX4_of_28 : decode cX4_of 28 = .ok (.bipush 6, 2) := by decide +kernel
theorem dX4_of_30 : decode cX4_of 30 = .ok (.if_icmp .gt 12, 3) := by decide +kernel
theorem dX4_of_33 : decode cX4_of 33 = .ok (.aload_n 0, 1) := by decide +kernel
theorem dX4_of_34 : decode cX4_of 34 = .ok (.iload_n 1, 1) := by decide +kernel
theorem dX4_of_35 : decode cX4_of 35 = .ok (.iload_n 2, 1) := by decide +kernel
theorem dX4_of_36 : decode cX4_of 36 = .ok (.invokevirtual 58, 3) := by decide +kernel
theorem dX4_of_39 : decode cX4_of 39 = .ok (.goto 22, 3) := by decide +kernel
theorem dX4_of_42 : decode cX4_of 42 = .ok (.iload_n 2, 1) := by decide +kernel
theorem dX4_of_43 : decode cX4_of 43 = .ok (.bipush 7, 2) := by decide +kernel
theorem dX4_of_45 : decode cX4_of 45 = .ok (.if_icmp .ne 11, 3) := by decide +kernel
theorem dX4_of_48 : decode cX4_of 48 = .ok (.aload_n 0, 1) := by decide +kernel
theorem dX4_of_49 : decode cX4_of 49 = .ok (.iload_n 1, 1) := by decide +kernel
theorem dX4_of_50 : decode cX4_of 50 = .ok (.invokevirtual 85, 3) := by decide +kernel
theorem dX4_of_53 : decode cX4_of 53 = .ok (.goto 8, 3) := by decide +kernel
theorem dX4_of_56 : decode cX4_of 56 = .ok (.aload_n 0, 1) := by decide +kernel
theorem dX4_of_57 : decode cX4_of 57 = .ok (.iload_n 1, 1) := by decide +kernel
theorem dX4_of_58 : decode cX4_of 58 = .ok (.invokevirtual 88, 3) := by decide +kernel
theorem dX4_of_61 : decode cX4_of 61 = .ok (.ireturn, 1) := by decide +kernel
theorem dX4_isPart_0 : decode cX4_isPart 0 = .ok (.iload_n 0, 1) := by decide +kernel
theorem dX4_isPart_1 : decode cX4_isPart 1 = .ok (.tableswitch 42 1 3 #[27, 27, 32], 27) := by decide +kernel
theorem dX4_isPart_28 : decode cX4_isPart 28 = .ok (.iload_n 1, 1) := by decide +kernel
theorem dX4_isPart_29 : decode cX4_isPart 29 = .ok (.invokestatic 70, 3) := by decide +kernel
theorem dX4_isPart_32 : decode cX4_isPart 32 = .ok (.ireturn, 1) := by decide +kernel
theorem dX4_isPart_33 : decode cX4_isPart 33 = .ok (.iload_n 1, 1) := by decide +kernel
theorem dX4_isPart_34 : decode cX4_isPart 34 = .ok (.i2l, 1) := by decide +kernel
theorem dX4_isPart_35 : decode cX4_isPart 35 = .ok (.lconst 0, 1) := by decide +kernel
theorem dX4_isPart_36 : decode cX4_isPart 36 = .ok (.ldc2_w 91, 3) := by decide +kernel
theorem dX4_isPart_39 : decode cX4_isPart 39 = .ok (.invokestatic 44, 3) := by decide +kernel
theorem dX4_isPart_42 : decode cX4_isPart 42 = .ok (.ireturn, 1) := by decide +kernel
theorem dX4_isPart_43 : decode cX4_isPart 43 = .ok (.iload_n 0, 1) := by decide +kernel
theorem dX4_isPart_44 : decode cX4_isPart 44 = .ok (.iconst 4, 1) := by decide +kernel
theorem dX4_isPart_45 : decode cX4_isPart 45 = .ok (.if_icmp .ne 19, 3) := by decide +kernel
theorem dX4_isPart_48 : decode cX4_isPart 48 = .ok (.iload_n 1, 1) := by decide +kernel
theorem dX4_isPart_49 : decode cX4_isPart 49 = .ok (.i2l, 1) := by decide +kernel
theorem dX4_isPart_50 : decode cX4_isPart 50 = .ok (.lconst 0, 1) := by decide +kernel
theorem dX4_isPart_51 : decode cX4_isPart 51 = .ok (.ldc2_w 93, 3) := by decide +kernel
theorem dX4_isPart_54 : decode cX4_isPart 54 = .ok (.invokestatic 44, 3) := by decide +kernel
theorem dX4_isPart_57 : decode cX4_isPart 57 = .ok (.ifCond .eq 7, 3) := by decide +kernel
theorem dX4_isPart_60 : decode cX4_isPart 60 = .ok (.iconst 1, 1) := by decide +kernel
theorem dX4_isPart_61 : decode cX4_isPart 61 = .ok (.goto 4, 3) := by decide +kernel
theorem dX4_isPart_64 : decode cX4_isPart 64 = .ok (.iconst 0, 1) := by decide +kernel
theorem dX4_isPart_65 : decode cX4_isPart 65 = .ok (.ireturn, 1) := by decide +kernel
theorem dX4_comesTo_0 : decode cX4_comesTo 0 = .ok (.aload_n 0, 1) := by decide +kernel
theorem dX4_comesTo_1 : decode cX4_comesTo 1 = .ok (.getfield 7, 3) := by decide +kernel
theorem dX4_comesTo_4 : decode cX4_comesTo 4 = .ok (.iload_n 1, 1) := by decide +kernel
theorem dX4_comesTo_5 : decode cX4_comesTo 5 = .ok (.iconst 1, 1) := by decide +kernel
theorem dX4_comesTo_6 : decode cX4_comesTo 6 = .ok (.invokestatic 54, 3) := by decide +kernel
theorem dX4_comesTo_9 : decode cX4_comesTo 9 = .ok (.iload_n 2, 1) := by decide +kernel
theorem dX4_comesTo_10 : decode cX4_comesTo 10 = .ok (.iastore, 1) := by decide +kernel
theorem dX4_comesTo_11 : decode cX4_comesTo 11 = .ok (.aload_n 0, 1) := by decide +kernel
theorem dX4_comesTo_12 : decode cX4_comesTo 12 = .ok (.iload_n 1, 1) := by decide +kernel
theorem dX4_comesTo_13 : decode cX4_comesTo 13 = .ok (.invokevirtual 95, 3) := by decide +kernel
theorem dX4_comesTo_16 : decode cX4_comesTo 16 = .ok (.ifCond .ne 19, 3) := by decide +kernel
theorem dX4_comesTo_19 : decode cX4_comesTo 19 = .ok (.aload_n 0, 1) := by decide +kernel
theorem dX4_comesTo_20 : decode cX4_comesTo 20 = .ok (.getfield 7, 3) := by decide +kernel
theorem dX4_comesTo_23 : decode cX4_comesTo 23 = .ok (.aload_n 0, 1) := by decide +kernel
theorem dX4_comesTo_24 : decode cX4_comesTo 24 = .ok (.iload_n 1, 1) := by decide +kernel
theorem dX4_comesTo_25 : decode cX4_comesTo 25 = .ok (.iconst 5, 1) := by decide +kernel
theorem dX4_comesTo_26 : decode cX4_comesTo 26 = .ok (.invokevirtual 58, 3) := by decide +kernel
theorem dX4_comesTo_29 : decode cX4_comesTo 29 = .ok (.iconst 1, 1) := by decide +kernel
theorem dX4_comesTo_30 : decode cX4_comesTo 30 = .ok (.invokestatic 54, 3) := by decide +kernel
theorem dX4_comesTo_33 : decode cX4_comesTo 33 = .ok (.iload_n 2, 1) := by decide +kernel
theorem dX4_comesTo_34 : decode cX4_comesTo 34 = .ok (.iastore, 1) := by decide +kernel
theorem dX4_comesTo_35 : decode cX4_comesTo 35 = .ok (.return_, 1) := by decide +kernel
theorem dX4_set_0 : decode cX4_set 0 = .ok (.aload_n 0, 1) := by decide +kernel
theorem dX4_set_1 : decode cX4_set 1 = .ok (.iload_n 1, 1) := by decide +kernel
theorem dX4_set_2 : decode cX4_set 2 = .ok (.invokevirtual 48, 3) := by decide +kernel
theorem dX4_set_5 : decode cX4_set 5 = .ok (.ifCond .eq 11, 3) := by decide +kernel
theorem dX4_set_8 : decode cX4_set 8 = .ok (.iload_n 2, 1) := by decide +kernel
theorem dX4_set_9 : decode cX4_set 9 = .ok (.iload_n 3, 1) := by decide +kernel
theorem dX4_set_10 : decode cX4_set 10 = .ok (.invokestatic 98, 3) := by decide +kernel
theorem dX4_set_13 : decode cX4_set 13 = .ok (.ifCond .ne 10, 3) := by decide +kernel
theorem dX4_set_16 : decode cX4_set 16 = .ok (.aload_n 0, 1) := by decide +kernel
theorem dX4_set_17 : decode cX4_set 17 = .ok (.ldc 41, 2) := by decide +kernel
theorem dX4_set_19 : decode cX4_set 19 = .ok (.invokevirtual 66, 3) := by decide +kernel
theorem dX4_set_22 : decode cX4_set 22 = .ok (.ireturn, 1) := by decide +kernel
theorem dX4_set_23 : decode cX4_set 23 = .ok (.aload_n 0, 1) := by decide +kernel
theorem dX4_set_24 : decode cX4_set 24 = .ok (.iload_n 1, 1) := by decide +kernel
theorem dX4_set_25 : decode cX4_set 25 = .ok (.iload_n 2, 1) := by decide +kernel
theorem dX4_set_26 : decode cX4_set 26 = .ok (.invokestatic 54, 3) := by decide +kernel
theorem dX4_set_29 : decode cX4_set 29 = .ok (.iload_n 3, 1) := by decide +kernel
theorem dX4_set_30 : decode cX4_set 30 = .ok (.invokevirtual 63, 3) := by decide +kernel
theorem dX4_set_33 : decode cX4_set 33 = .ok (.istore 4, 2) := by decide +kernel
theorem dX4_set_35 : decode cX4_set 35 = .ok (.iload_n 2, 1) := by decide +kernel
theorem dX4_set_36 : decode cX4_set 36 = .ok (.iconst 1, 1) := by decide +kernel
theorem dX4_set_37 : decode cX4_set 37 = .ok (.if_icmp .ne 9, 3) := by decide +kernel
theorem dX4_set_40 : decode cX4_set 40 = .ok (.aload_n 0, 1) := by decide +kernel
theorem dX4_set_41 : decode cX4_set 41 = .ok (.iload_n 1, 1) := by decide +kernel
theorem dX4_set_42 : decode cX4_set 42 = .ok (.iload_n 3, 1) := by decide +kernel
theorem dX4_set_43 : decode cX4_set 43 = .ok (.invokevirtual 102, 3) := by decide +kernel
theorem dX4_set_46 : decode cX4_set 46 = .ok (.iload 4, 2) := by decide +kernel
theorem dX4_set_48 : decode cX4_set 48 = .ok (.ireturn, 1) := by decide +kernel
theorem dX4_turn_0 : decode cX4_turn 0 = .ok (.aload_n 0, 1) := by decide +kernel
theorem dX4_turn_1 : decode cX4_turn 1 = .ok (.iload_n 1, 1) := by decide +kernel
theorem dX4_turn_2 : decode cX4_turn 2 = .ok (.invokevirtual 48, 3) := by decide +kernel
theorem dX4_turn_5 : decode cX4_turn 5 = .ok (.ifCond .eq 23, 3) := by decide +kernel
theorem dX4_turn_8 : decode cX4_turn 8 = .ok (.iload_n 2, 1) := by decide +kernel
theorem dX4_turn_9 : decode cX4_turn 9 = .ok (.invokestatic 76, 3) := by decide +kernel
theorem dX4_turn_12 : decode cX4_turn 12 = .ok (.ifCond .eq 16, 3) := by decide +kernel
theorem dX4_turn_15 : decode cX4_turn 15 = .ok (.aload_n 0, 1) := by decide +kernel
theorem dX4_turn_16 : decode cX4_turn 16 = .ok (.iload_n 1, 1) := by decide +kernel
theorem dX4_turn_17 : decode cX4_turn 17 = .ok (.iconst 0, 1) := by decide +kernel
theorem dX4_turn_18 : decode cX4_turn 18 = .ok (.invokestatic 54, 3) := by decide +kernel
theorem dX4_turn_21 : decode cX4_turn 21 = .ok (.iload_n 2, 1) := by decide +kernel
theorem dX4_turn_22 : decode cX4_turn 22 = .ok (.invokevirtual 63, 3) := by decide +kernel
theorem dX4_turn_25 : decode cX4_turn 25 = .ok (.goto 9, 3) := by decide +kernel
theorem dX4_turn_28 : decode cX4_turn 28 = .ok (.aload_n 0, 1) := by decide +kernel
theorem dX4_turn_29 : decode cX4_turn 29 = .ok (.ldc 41, 2) := by decide +kernel
theorem dX4_turn_31 : decode cX4_turn 31 = .ok (.invokevirtual 66, 3) := by decide +kernel
theorem dX4_turn_34 : decode cX4_turn 34 = .ok (.ireturn, 1) := by decide +kernel
theorem dX4_isUnder_0 : decode cX4_isUnder 0 = .ok (.iload_n 1, 1) := by decide +kernel
theorem dX4_isUnder_1 : decode cX4_isUnder 1 = .ok (.ifCond .eq 20, 3) := by decide +kernel
theorem dX4_isUnder_4 : decode cX4_isUnder 4 = .ok (.iload_n 0, 1) := by decide +kernel
theorem dX4_isUnder_5 : decode cX4_isUnder 5 = .ok (.iload_n 1, 1) := by decide +kernel
theorem dX4_isUnder_6 : decode cX4_isUnder 6 = .ok (.if_icmp .eq 15, 3) := by decide +kernel
theorem dX4_isUnder_9 : decode cX4_isUnder 9 = .ok (.iload_n 0, 1) := by decide +kernel
theorem dX4_isUnder_10 : decode cX4_isUnder 10 = .ok (.iconst 3, 1) := by decide +kernel
theorem dX4_isUnder_11 : decode cX4_isUnder 11 = .ok (.if_icmp .le 14, 3) := by decide +kernel
theorem dX4_isUnder_14 : decode cX4_isUnder 14 = .ok (.iload_n 0, 1) := by decide +kernel
theorem dX4_isUnder_15 : decode cX4_isUnder 15 = .ok (.iconst 3, 1) := by decide +kernel
theorem dX4_isUnder_16 : decode cX4_isUnder 16 = .ok (.isub, 1) := by decide +kernel
theorem dX4_isUnder_17 : decode cX4_isUnder 17 = .ok (.iload_n 1, 1) := by decide +kernel
theorem dX4_isUnder_18 : decode cX4_isUnder 18 = .ok (.if_icmp .ne 7, 3) := by decide +kernel
theorem dX4_isUnder_21 : decode cX4_isUnder 21 = .ok (.iconst 1, 1) := by decide +kernel
theorem dX4_isUnder_22 : decode cX4_isUnder 22 = .ok (.goto 4, 3) := by decide +kernel
theorem dX4_isUnder_25 : decode cX4_isUnder 25 = .ok (.iconst 0, 1) := by decide +kernel
theorem dX4_isUnder_26 : decode cX4_isUnder 26 = .ok (.ireturn, 1) := by decide +kernel
theorem dX4_as_0 : decode cX4_as 0 = .ok (.aload_n 0, 1) := by decide +kernel
theorem dX4_as_1 : decode cX4_as 1 = .ok (.iload_n 1, 1) := by decide +kernel
theorem dX4_as_2 : decode cX4_as 2 = .ok (.invokevirtual 48, 3) := by decide +kernel
theorem dX4_as_5 : decode cX4_as 5 = .ok (.ifCond .eq 10, 3) := by decide +kernel
theorem dX4_as_8 : decode cX4_as 8 = .ok (.iload_n 2, 1) := by decide +kernel
theorem dX4_as_9 : decode cX4_as 9 = .ok (.invokestatic 76, 3) := by decide +kernel
theorem dX4_as_12 : decode cX4_as 12 = .ok (.ifCond .ne 10, 3) := by decide +kernel
theorem dX4_as_15 : decode cX4_as 15 = .ok (.aload_n 0, 1) := by decide +kernel
theorem dX4_as_16 : decode cX4_as 16 = .ok (.ldc 41, 2) := by decide +kernel
theorem dX4_as_18 : decode cX4_as 18 = .ok (.invokevirtual 66, 3) := by decide +kernel
theorem dX4_as_21 : decode cX4_as 21 = .ok (.ireturn, 1) := by decide +kernel
theorem dX4_as_22 : decode cX4_as 22 = .ok (.aload_n 0, 1) := by decide +kernel
theorem dX4_as_23 : decode cX4_as 23 = .ok (.iload_n 1, 1) := by decide +kernel
theorem dX4_as_24 : decode cX4_as 24 = .ok (.iconst 0, 1) := by decide +kernel
theorem dX4_as_25 : decode cX4_as 25 = .ok (.invokevirtual 58, 3) := by decide +kernel
theorem dX4_as_28 : decode cX4_as 28 = .ok (.iload_n 2, 1) := by decide +kernel
theorem dX4_as_29 : decode cX4_as 29 = .ok (.invokestatic 106, 3) := by decide +kernel
theorem dX4_as_32 : decode cX4_as 32 = .ok (.ifCond .eq 12, 3) := by decide +kernel
theorem dX4_as_35 : decode cX4_as 35 = .ok (.aload_n 0, 1) := by decide +kernel
theorem dX4_as_36 : decode cX4_as 36 = .ok (.iload_n 1, 1) := by decide +kernel
theorem dX4_as_37 : decode cX4_as 37 = .ok (.iconst 4, 1) := by decide +kernel
theorem dX4_as_38 : decode cX4_as 38 = .ok (.invokevirtual 58, 3) := by decide +kernel
theorem dX4_as_41 : decode cX4_as 41 = .ok (.goto 9, 3) := by decide +kernel
theorem dX4_as_44 : decode cX4_as 44 = .ok (.aload_n 0, 1) := by decide +kernel
theorem dX4_as_45 : decode cX4_as 45 = .ok (.ldc 109, 2) := by decide +kernel
theorem dX4_as_47 : decode cX4_as 47 = .ok (.invokevirtual 66, 3) := by decide +kernel
theorem dX4_as_50 : decode cX4_as 50 = .ok (.ireturn, 1) := by decide +kernel
theorem dX4_isFreed_0 : decode cX4_isFreed 0 = .ok (.aload_n 0, 1) := by decide +kernel
theorem dX4_isFreed_1 : decode cX4_isFreed 1 = .ok (.getfield 7, 3) := by decide +kernel
theorem dX4_isFreed_4 : decode cX4_isFreed 4 = .ok (.iload_n 1, 1) := by decide +kernel
theorem dX4_isFreed_5 : decode cX4_isFreed 5 = .ok (.iconst 5, 1) := by decide +kernel
theorem dX4_isFreed_6 : decode cX4_isFreed 6 = .ok (.invokestatic 54, 3) := by decide +kernel
theorem dX4_isFreed_9 : decode cX4_isFreed 9 = .ok (.iconst (-1), 1) := by decide +kernel
theorem dX4_isFreed_10 : decode cX4_isFreed 10 = .ok (.iastore, 1) := by decide +kernel
theorem dX4_isFreed_11 : decode cX4_isFreed 11 = .ok (.aload_n 0, 1) := by decide +kernel
theorem dX4_isFreed_12 : decode cX4_isFreed 12 = .ok (.getfield 7, 3) := by decide +kernel
theorem dX4_isFreed_15 : decode cX4_isFreed 15 = .ok (.iload_n 1, 1) := by decide +kernel
theorem dX4_isFreed_16 : decode cX4_isFreed 16 = .ok (.bipush 6, 2) := by decide +kernel
theorem dX4_isFreed_18 : decode cX4_isFreed 18 = .ok (.invokestatic 54, 3) := by decide +kernel
theorem dX4_isFreed_21 : decode cX4_isFreed 21 = .ok (.iconst (-1), 1) := by decide +kernel
theorem dX4_isFreed_22 : decode cX4_isFreed 22 = .ok (.iastore, 1) := by decide +kernel
theorem dX4_isFreed_23 : decode cX4_isFreed 23 = .ok (.return_, 1) := by decide +kernel
theorem dX4_lets_0 : decode cX4_lets 0 = .ok (.aload_n 0, 1) := by decide +kernel
theorem dX4_lets_1 : decode cX4_lets 1 = .ok (.iload_n 1, 1) := by decide +kernel
theorem dX4_lets_2 : decode cX4_lets 2 = .ok (.iconst 5, 1) := by decide +kernel
theorem dX4_lets_3 : decode cX4_lets 3 = .ok (.invokevirtual 58, 3) := by decide +kernel
theorem dX4_lets_6 : decode cX4_lets 6 = .ok (.istore_n 2, 1) := by decide +kernel
theorem dX4_lets_7 : decode cX4_lets 7 = .ok (.aload_n 0, 1) := by decide +kernel
theorem dX4_lets_8 : decode cX4_lets 8 = .ok (.iload_n 2, 1) := by decide +kernel
theorem dX4_lets_9 : decode cX4_lets 9 = .ok (.invokevirtual 110, 3) := by decide +kernel
theorem dX4_lets_12 : decode cX4_lets 12 = .ok (.aload_n 0, 1) := by decide +kernel
theorem dX4_lets_13 : decode cX4_lets 13 = .ok (.iload_n 1, 1) := by decide +kernel
theorem dX4_lets_14 : decode cX4_lets 14 = .ok (.invokevirtual 110, 3) := by decide +kernel
theorem dX4_lets_17 : decode cX4_lets 17 = .ok (.iload_n 2, 1) := by decide +kernel
theorem dX4_lets_18 : decode cX4_lets 18 = .ok (.ireturn, 1) := by decide +kernel
theorem dX4_free_0 : decode cX4_free 0 = .ok (.aload_n 0, 1) := by decide +kernel
theorem dX4_free_1 : decode cX4_free 1 = .ok (.iload_n 1, 1) := by decide +kernel
theorem dX4_free_2 : decode cX4_free 2 = .ok (.invokevirtual 48, 3) := by decide +kernel
theorem dX4_free_5 : decode cX4_free 5 = .ok (.ifCond .ne 10, 3) := by decide +kernel
theorem dX4_free_8 : decode cX4_free 8 = .ok (.aload_n 0, 1) := by decide +kernel
theorem dX4_free_9 : decode cX4_free 9 = .ok (.ldc 41, 2) := by decide +kernel
theorem dX4_free_11 : decode cX4_free 11 = .ok (.invokevirtual 66, 3) := by decide +kernel
theorem dX4_free_14 : decode cX4_free 14 = .ok (.ireturn, 1) := by decide +kernel
theorem dX4_free_15 : decode cX4_free 15 = .ok (.aload_n 0, 1) := by decide +kernel
theorem dX4_free_16 : decode cX4_free 16 = .ok (.iload_n 1, 1) := by decide +kernel
theorem dX4_free_17 : decode cX4_free 17 = .ok (.invokevirtual 95, 3) := by decide +kernel
theorem dX4_free_20 : decode cX4_free 20 = .ok (.ifCond .eq 12, 3) := by decide +kernel
theorem dX4_free_23 : decode cX4_free 23 = .ok (.aload_n 0, 1) := by decide +kernel
theorem dX4_free_24 : decode cX4_free 24 = .ok (.ldc 114, 2) := by decide +kernel
theorem dX4_free_26 : decode cX4_free 26 = .ok (.invokevirtual 66, 3) := by decide +kernel
theorem dX4_free_29 : decode cX4_free 29 = .ok (.goto 8, 3) := by decide +kernel
theorem dX4_free_32 : decode cX4_free 32 = .ok (.aload_n 0, 1) := by decide +kernel
theorem dX4_free_33 : decode cX4_free 33 = .ok (.iload_n 1, 1) := by decide +kernel
theorem dX4_free_34 : decode cX4_free 34 = .ok (.invokevirtual 115, 3) := by decide +kernel
theorem dX4_free_37 : decode cX4_free 37 = .ok (.ireturn, 1) := by decide +kernel
theorem dX4_keeps_0 : decode cX4_keeps 0 = .ok (.aload_n 0, 1) := by decide +kernel
theorem dX4_keeps_1 : decode cX4_keeps 1 = .ok (.getfield 7, 3) := by decide +kernel
theorem dX4_keeps_4 : decode cX4_keeps 4 = .ok (.iload_n 1, 1) := by decide +kernel
theorem dX4_keeps_5 : decode cX4_keeps 5 = .ok (.iconst 5, 1) := by decide +kernel
theorem dX4_keeps_6 : decode cX4_keeps 6 = .ok (.invokestatic 54, 3) := by decide +kernel
theorem dX4_keeps_9 : decode cX4_keeps 9 = .ok (.iload_n 2, 1) := by decide +kernel
theorem dX4_keeps_10 : decode cX4_keeps 10 = .ok (.iastore, 1) := by decide +kernel
theorem dX4_keeps_11 : decode cX4_keeps 11 = .ok (.aload_n 0, 1) := by decide +kernel
theorem dX4_keeps_12 : decode cX4_keeps 12 = .ok (.getfield 7, 3) := by decide +kernel
theorem dX4_keeps_15 : decode cX4_keeps 15 = .ok (.iload_n 2, 1) := by decide +kernel
theorem dX4_keeps_16 : decode cX4_keeps 16 = .ok (.iconst 5, 1) := by decide +kernel
theorem dX4_keeps_17 : decode cX4_keeps 17 = .ok (.invokestatic 54, 3) := by decide +kernel
theorem dX4_keeps_20 : decode cX4_keeps 20 = .ok (.iload_n 1, 1) := by decide +kernel
theorem dX4_keeps_21 : decode cX4_keeps 21 = .ok (.iastore, 1) := by decide +kernel
theorem dX4_keeps_22 : decode cX4_keeps 22 = .ok (.aload_n 0, 1) := by decide +kernel
theorem dX4_keeps_23 : decode cX4_keeps 23 = .ok (.getfield 7, 3) := by decide +kernel
theorem dX4_keeps_26 : decode cX4_keeps 26 = .ok (.iload_n 1, 1) := by decide +kernel
theorem dX4_keeps_27 : decode cX4_keeps 27 = .ok (.bipush 6, 2) := by decide +kernel
theorem dX4_keeps_29 : decode cX4_keeps 29 = .ok (.invokestatic 54, 3) := by decide +kernel
theorem dX4_keeps_32 : decode cX4_keeps 32 = .ok (.aload_n 0, 1) := by decide +kernel
theorem dX4_keeps_33 : decode cX4_keeps 33 = .ok (.iload_n 2, 1) := by decide +kernel
theorem dX4_keeps_34 : decode cX4_keeps 34 = .ok (.iconst 4, 1) := by decide +kernel
theorem dX4_keeps_35 : decode cX4_keeps 35 = .ok (.invokevirtual 58, 3) := by decide +kernel
theorem dX4_keeps_38 : decode cX4_keeps 38 = .ok (.iastore, 1) := by decide +kernel
theorem dX4_keeps_39 : decode cX4_keeps 39 = .ok (.aload_n 0, 1) := by decide +kernel
theorem dX4_keeps_40 : decode cX4_keeps 40 = .ok (.getfield 7, 3) := by decide +kernel
theorem dX4_keeps_43 : decode cX4_keeps 43 = .ok (.iload_n 2, 1) := by decide +kernel
theorem dX4_keeps_44 : decode cX4_keeps 44 = .ok (.bipush 6, 2) := by decide +kernel
theorem dX4_keeps_46 : decode cX4_keeps 46 = .ok (.invokestatic 54, 3) := by decide +kernel
theorem dX4_keeps_49 : decode cX4_keeps 49 = .ok (.aload_n 0, 1) := by decide +kernel
theorem dX4_keeps_50 : decode cX4_keeps 50 = .ok (.iload_n 1, 1) := by decide +kernel
theorem dX4_keeps_51 : decode cX4_keeps 51 = .ok (.iconst 4, 1) := by decide +kernel
theorem dX4_keeps_52 : decode cX4_keeps 52 = .ok (.invokevirtual 58, 3) := by decide +kernel
theorem dX4_keeps_55 : decode cX4_keeps 55 = .ok (.iastore, 1) := by decide +kernel
theorem dX4_keeps_56 : decode cX4_keeps 56 = .ok (.return_, 1) := by decide +kernel
theorem dX4_ones_0 : decode cX4_ones 0 = .ok (.iconst 0, 1) := by decide +kernel
theorem dX4_ones_1 : decode cX4_ones 1 = .ok (.istore_n 1, 1) := by decide +kernel
theorem dX4_ones_2 : decode cX4_ones 2 = .ok (.iload_n 0, 1) := by decide +kernel
theorem dX4_ones_3 : decode cX4_ones 3 = .ok (.istore_n 2, 1) := by decide +kernel
theorem dX4_ones_4 : decode cX4_ones 4 = .ok (.iload_n 2, 1) := by decide +kernel
theorem dX4_ones_5 : decode cX4_ones 5 = .ok (.ifCond .eq 15, 3) := by decide +kernel
theorem dX4_ones_8 : decode cX4_ones 8 = .ok (.iinc 1 1, 3) := by decide +kernel
theorem dX4_ones_11 : decode cX4_ones 11 = .ok (.iload_n 2, 1) := by decide +kernel
theorem dX4_ones_12 : decode cX4_ones 12 = .ok (.iload_n 2, 1) := by decide +kernel
theorem dX4_ones_13 : decode cX4_ones 13 = .ok (.iconst 1, 1) := by decide +kernel
theorem dX4_ones_14 : decode cX4_ones 14 = .ok (.isub, 1) := by decide +kernel
theorem dX4_ones_15 : decode cX4_ones 15 = .ok (.iand, 1) := by decide +kernel
theorem dX4_ones_16 : decode cX4_ones 16 = .ok (.istore_n 2, 1) := by decide +kernel
theorem dX4_ones_17 : decode cX4_ones 17 = .ok (.goto (-13), 3) := by decide +kernel
theorem dX4_ones_20 : decode cX4_ones 20 = .ok (.iload_n 1, 1) := by decide +kernel
theorem dX4_ones_21 : decode cX4_ones 21 = .ok (.ireturn, 1) := by decide +kernel
theorem dX4_thoseKept_0 : decode cX4_thoseKept 0 = .ok (.iconst 0, 1) := by decide +kernel
theorem dX4_thoseKept_1 : decode cX4_thoseKept 1 = .ok (.istore_n 1, 1) := by decide +kernel
theorem dX4_thoseKept_2 : decode cX4_thoseKept 2 = .ok (.iconst 0, 1) := by decide +kernel
theorem dX4_thoseKept_3 : decode cX4_thoseKept 3 = .ok (.istore_n 2, 1) := by decide +kernel
theorem dX4_thoseKept_4 : decode cX4_thoseKept 4 = .ok (.iload_n 2, 1) := by decide +kernel
theorem dX4_thoseKept_5 : decode cX4_thoseKept 5 = .ok (.aload_n 0, 1) := by decide +kernel
theorem dX4_thoseKept_6 : decode cX4_thoseKept 6 = .ok (.getfield 7, 3) := by decide +kernel
theorem dX4_thoseKept_9 : decode cX4_thoseKept 9 = .ok (.iconst 0, 1) := by decide +kernel
theorem dX4_thoseKept_10 : decode cX4_thoseKept 10 = .ok (.iaload, 1) := by decide +kernel
theorem dX4_thoseKept_11 : decode cX4_thoseKept 11 = .ok (.if_icmp .ge 27, 3) := by decide +kernel
theorem dX4_thoseKept_14 : decode cX4_thoseKept 14 = .ok (.iload_n 1, 1) := by decide +kernel
theorem dX4_thoseKept_15 : decode cX4_thoseKept 15 = .ok (.aload_n 0, 1) := by decide +kernel
theorem dX4_thoseKept_16 : decode cX4_thoseKept 16 = .ok (.iload_n 2, 1) := by decide +kernel
theorem dX4_thoseKept_17 : decode cX4_thoseKept 17 = .ok (.invokevirtual 95, 3) := by decide +kernel
theorem dX4_thoseKept_20 : decode cX4_thoseKept 20 = .ok (.ifCond .eq 7, 3) := by decide +kernel
theorem dX4_thoseKept_23 : decode cX4_thoseKept 23 = .ok (.iconst 0, 1) := by decide +kernel
theorem dX4_thoseKept_24 : decode cX4_thoseKept 24 = .ok (.goto 6, 3) := by decide +kernel
theorem dX4_thoseKept_27 : decode cX4_thoseKept 27 = .ok (.iconst 1, 1) := by decide +kernel
theorem dX4_thoseKept_28 : decode cX4_thoseKept 28 = .ok (.iload_n 2, 1) := by decide +kernel
theorem dX4_thoseKept_29 : decode cX4_thoseKept 29 = .ok (.ishl, 1) := by decide +kernel
theorem dX4_thoseKept_30 : decode cX4_thoseKept 30 = .ok (.ior, 1) := by decide +kernel
theorem dX4_thoseKept_31 : decode cX4_thoseKept 31 = .ok (.istore_n 1, 1) := by decide +kernel
theorem dX4_thoseKept_32 : decode cX4_thoseKept 32 = .ok (.iinc 2 1, 3) := by decide +kernel
theorem dX4_thoseKept_35 : decode cX4_thoseKept 35 = .ok (.goto (-31), 3) := by decide +kernel
theorem dX4_thoseKept_38 : decode cX4_thoseKept 38 = .ok (.iload_n 1, 1) := by decide +kernel
theorem dX4_thoseKept_39 : decode cX4_thoseKept 39 = .ok (.ireturn, 1) := by decide +kernel
theorem dX4_keep_0 : decode cX4_keep 0 = .ok (.aload_n 0, 1) := by decide +kernel
theorem dX4_keep_1 : decode cX4_keep 1 = .ok (.iload_n 1, 1) := by decide +kernel
theorem dX4_keep_2 : decode cX4_keep 2 = .ok (.iload_n 2, 1) := by decide +kernel
theorem dX4_keep_3 : decode cX4_keep 3 = .ok (.invokevirtual 118, 3) := by decide +kernel
theorem dX4_keep_6 : decode cX4_keep 6 = .ok (.ifCond .ne 10, 3) := by decide +kernel
theorem dX4_keep_9 : decode cX4_keep 9 = .ok (.aload_n 0, 1) := by decide +kernel
theorem dX4_keep_10 : decode cX4_keep 10 = .ok (.ldc 41, 2) := by decide +kernel
theorem dX4_keep_12 : decode cX4_keep 12 = .ok (.invokevirtual 66, 3) := by decide +kernel
theorem dX4_keep_15 : decode cX4_keep 15 = .ok (.ireturn, 1) := by decide +kernel
theorem dX4_keep_16 : decode cX4_keep 16 = .ok (.aload_n 0, 1) := by decide +kernel
theorem dX4_keep_17 : decode cX4_keep 17 = .ok (.iload_n 1, 1) := by decide +kernel
theorem dX4_keep_18 : decode cX4_keep 18 = .ok (.invokevirtual 95, 3) := by decide +kernel
theorem dX4_keep_21 : decode cX4_keep 21 = .ok (.ifCond .eq 26, 3) := by decide +kernel
theorem dX4_keep_24 : decode cX4_keep 24 = .ok (.aload_n 0, 1) := by decide +kernel
theorem dX4_keep_25 : decode cX4_keep 25 = .ok (.iload_n 2, 1) := by decide +kernel
theorem dX4_keep_26 : decode cX4_keep 26 = .ok (.invokevirtual 95, 3) := by decide +kernel
theorem dX4_keep_29 : decode cX4_keep 29 = .ok (.ifCond .eq 18, 3) := by decide +kernel
theorem dX4_keep_32 : decode cX4_keep 32 = .ok (.aload_n 0, 1) := by decide +kernel
theorem dX4_keep_33 : decode cX4_keep 33 = .ok (.iload_n 1, 1) := by decide +kernel
theorem dX4_keep_34 : decode cX4_keep 34 = .ok (.iconst 1, 1) := by decide +kernel
theorem dX4_keep_35 : decode cX4_keep 35 = .ok (.invokevirtual 58, 3) := by decide +kernel
theorem dX4_keep_38 : decode cX4_keep 38 = .ok (.aload_n 0, 1) := by decide +kernel
theorem dX4_keep_39 : decode cX4_keep 39 = .ok (.iload_n 2, 1) := by decide +kernel
theorem dX4_keep_40 : decode cX4_keep 40 = .ok (.iconst 1, 1) := by decide +kernel
theorem dX4_keep_41 : decode cX4_keep 41 = .ok (.invokevirtual 58, 3) := by decide +kernel
theorem dX4_keep_44 : decode cX4_keep 44 = .ok (.if_icmp .eq 10, 3) := by decide +kernel
theorem dX4_keep_47 : decode cX4_keep 47 = .ok (.aload_n 0, 1) := by decide +kernel
theorem dX4_keep_48 : decode cX4_keep 48 = .ok (.ldc 114, 2) := by decide +kernel
theorem dX4_keep_50 : decode cX4_keep 50 = .ok (.invokevirtual 66, 3) := by decide +kernel
theorem dX4_keep_53 : decode cX4_keep 53 = .ok (.ireturn, 1) := by decide +kernel
theorem dX4_keep_54 : decode cX4_keep 54 = .ok (.aload_n 0, 1) := by decide +kernel
theorem dX4_keep_55 : decode cX4_keep 55 = .ok (.iload_n 1, 1) := by decide +kernel
theorem dX4_keep_56 : decode cX4_keep 56 = .ok (.iload_n 2, 1) := by decide +kernel
theorem dX4_keep_57 : decode cX4_keep 57 = .ok (.invokevirtual 121, 3) := by decide +kernel
theorem dX4_keep_60 : decode cX4_keep 60 = .ok (.aload_n 0, 1) := by decide +kernel
theorem dX4_keep_61 : decode cX4_keep 61 = .ok (.invokevirtual 124, 3) := by decide +kernel
theorem dX4_keep_64 : decode cX4_keep 64 = .ok (.invokestatic 128, 3) := by decide +kernel
theorem dX4_keep_67 : decode cX4_keep 67 = .ok (.ireturn, 1) := by decide +kernel
theorem dX4_isFoggy_0 : decode cX4_isFoggy 0 = .ok (.aload_n 0, 1) := by decide +kernel
theorem dX4_isFoggy_1 : decode cX4_isFoggy 1 = .ok (.getfield 7, 3) := by decide +kernel
theorem dX4_isFoggy_4 : decode cX4_isFoggy 4 = .ok (.iconst 2, 1) := by decide +kernel
theorem dX4_isFoggy_5 : decode cX4_isFoggy 5 = .ok (.iaload, 1) := by decide +kernel
theorem dX4_isFoggy_6 : decode cX4_isFoggy 6 = .ok (.aload_n 0, 1) := by decide +kernel
theorem dX4_isFoggy_7 : decode cX4_isFoggy 7 = .ok (.getfield 7, 3) := by decide +kernel
theorem dX4_isFoggy_10 : decode cX4_isFoggy 10 = .ok (.iconst 1, 1) := by decide +kernel
theorem dX4_isFoggy_11 : decode cX4_isFoggy 11 = .ok (.iaload, 1) := by decide +kernel
theorem dX4_isFoggy_12 : decode cX4_isFoggy 12 = .ok (.bipush 24, 2) := by decide +kernel
theorem dX4_isFoggy_14 : decode cX4_isFoggy 14 = .ok (.irem, 1) := by decide +kernel
theorem dX4_isFoggy_15 : decode cX4_isFoggy 15 = .ok (.ishr, 1) := by decide +kernel
theorem dX4_isFoggy_16 : decode cX4_isFoggy 16 = .ok (.iconst 1, 1) := by decide +kernel
theorem dX4_isFoggy_17 : decode cX4_isFoggy 17 = .ok (.iand, 1) := by decide +kernel
theorem dX4_isFoggy_18 : decode cX4_isFoggy 18 = .ok (.iconst 1, 1) := by decide +kernel
theorem dX4_isFoggy_19 : decode cX4_isFoggy 19 = .ok (.if_icmp .ne 7, 3) := by decide +kernel
theorem dX4_isFoggy_22 : decode cX4_isFoggy 22 = .ok (.iconst 1, 1) := by decide +kernel
theorem dX4_isFoggy_23 : decode cX4_isFoggy 23 = .ok (.goto 4, 3) := by decide +kernel
theorem dX4_isFoggy_26 : decode cX4_isFoggy 26 = .ok (.iconst 0, 1) := by decide +kernel
theorem dX4_isFoggy_27 : decode cX4_isFoggy 27 = .ok (.ireturn, 1) := by decide +kernel
theorem dX4_turns_0 : decode cX4_turns 0 = .ok (.aload_n 0, 1) := by decide +kernel
theorem dX4_turns_1 : decode cX4_turns 1 = .ok (.getfield 7, 3) := by decide +kernel
theorem dX4_turns_4 : decode cX4_turns 4 = .ok (.iload_n 1, 1) := by decide +kernel
theorem dX4_turns_5 : decode cX4_turns 5 = .ok (.iconst 3, 1) := by decide +kernel
theorem dX4_turns_6 : decode cX4_turns 6 = .ok (.invokestatic 54, 3) := by decide +kernel
theorem dX4_turns_9 : decode cX4_turns 9 = .ok (.aload_n 0, 1) := by decide +kernel
theorem dX4_turns_10 : decode cX4_turns 10 = .ok (.iload_n 1, 1) := by decide +kernel
theorem dX4_turns_11 : decode cX4_turns 11 = .ok (.iconst 3, 1) := by decide +kernel
theorem dX4_turns_12 : decode cX4_turns 12 = .ok (.invokevirtual 58, 3) := by decide +kernel
theorem dX4_turns_15 : decode cX4_turns 15 = .ok (.iconst 1, 1) := by decide +kernel
theorem dX4_turns_16 : decode cX4_turns 16 = .ok (.iadd, 1) := by decide +kernel
theorem dX4_turns_17 : decode cX4_turns 17 = .ok (.iconst 4, 1) := by decide +kernel
theorem dX4_turns_18 : decode cX4_turns 18 = .ok (.irem, 1) := by decide +kernel
theorem dX4_turns_19 : decode cX4_turns 19 = .ok (.iastore, 1) := by decide +kernel
theorem dX4_turns_20 : decode cX4_turns 20 = .ok (.return_, 1) := by decide +kernel
theorem dX4_towards_0 : decode cX4_towards 0 = .ok (.iload_n 1, 1) := by decide +kernel
theorem dX4_towards_1 : decode cX4_towards 1 = .ok (.tableswitch 73 0 2 #[27, 42, 58], 27) := by decide +kernel
theorem dX4_towards_28 : decode cX4_towards 28 = .ok (.iload_n 0, 1) := by decide +kernel
theorem dX4_towards_29 : decode cX4_towards 29 = .ok (.bipush 6, 2) := by decide +kernel
theorem dX4_towards_31 : decode cX4_towards 31 = .ok (.if_icmp .ge 7, 3) := by decide +kernel
theorem dX4_towards_34 : decode cX4_towards 34 = .ok (.iconst (-1), 1) := by decide +kernel
theorem dX4_towards_35 : decode cX4_towards 35 = .ok (.goto 7, 3) := by decide +kernel
theorem dX4_towards_38 : decode cX4_towards 38 = .ok (.iload_n 0, 1) := by decide +kernel
theorem dX4_towards_39 : decode cX4_towards 39 = .ok (.bipush 6, 2) := by decide +kernel
theorem dX4_towards_41 : decode cX4_towards 41 = .ok (.isub, 1) := by decide +kernel
theorem dX4_towards_42 : decode cX4_towards 42 = .ok (.ireturn, 1) := by decide +kernel
theorem dX4_towards_43 : decode cX4_towards 43 = .ok (.iload_n 0, 1) := by decide +kernel
theorem dX4_towards_44 : decode cX4_towards 44 = .ok (.bipush 6, 2) := by decide +kernel
theorem dX4_towards_46 : decode cX4_towards 46 = .ok (.irem, 1) := by decide +kernel
theorem dX4_towards_47 : decode cX4_towards 47 = .ok (.iconst 5, 1) := by decide +kernel
theorem dX4_towards_48 : decode cX4_towards 48 = .ok (.if_icmp .ne 7, 3) := by decide +kernel
theorem dX4_towards_51 : decode cX4_towards 51 = .ok (.iconst (-1), 1) := by decide +kernel
theorem dX4_towards_52 : decode cX4_towards 52 = .ok (.goto 6, 3) := by decide +kernel
theorem dX4_towards_55 : decode cX4_towards 55 = .ok (.iload_n 0, 1) := by decide +kernel
theorem dX4_towards_56 : decode cX4_towards 56 = .ok (.iconst 1, 1) := by decide +kernel
theorem dX4_towards_57 : decode cX4_towards 57 = .ok (.iadd, 1) := by decide +kernel
theorem dX4_towards_58 : decode cX4_towards 58 = .ok (.ireturn, 1) := by decide +kernel
theorem dX4_towards_59 : decode cX4_towards 59 = .ok (.iload_n 0, 1) := by decide +kernel
theorem dX4_towards_60 : decode cX4_towards 60 = .ok (.bipush 30, 2) := by decide +kernel
theorem dX4_towards_62 : decode cX4_towards 62 = .ok (.if_icmp .lt 7, 3) := by decide +kernel
theorem dX4_towards_65 : decode cX4_towards 65 = .ok (.iconst (-1), 1) := by decide +kernel
theorem dX4_towards_66 : decode cX4_towards 66 = .ok (.goto 7, 3) := by decide +kernel
theorem dX4_towards_69 : decode cX4_towards 69 = .ok (.iload_n 0, 1) := by decide +kernel
theorem dX4_towards_70 : decode cX4_towards 70 = .ok (.bipush 6, 2) := by decide +kernel
theorem dX4_towards_72 : decode cX4_towards 72 = .ok (.iadd, 1) := by decide +kernel
theorem dX4_towards_73 : decode cX4_towards 73 = .ok (.ireturn, 1) := by decide +kernel
theorem dX4_towards_74 : decode cX4_towards 74 = .ok (.iload_n 0, 1) := by decide +kernel
theorem dX4_towards_75 : decode cX4_towards 75 = .ok (.bipush 6, 2) := by decide +kernel
theorem dX4_towards_77 : decode cX4_towards 77 = .ok (.irem, 1) := by decide +kernel
theorem dX4_towards_78 : decode cX4_towards 78 = .ok (.ifCond .ne 7, 3) := by decide +kernel
theorem dX4_towards_81 : decode cX4_towards 81 = .ok (.iconst (-1), 1) := by decide +kernel
theorem dX4_towards_82 : decode cX4_towards 82 = .ok (.goto 6, 3) := by decide +kernel
theorem dX4_towards_85 : decode cX4_towards 85 = .ok (.iload_n 0, 1) := by decide +kernel
theorem dX4_towards_86 : decode cX4_towards 86 = .ok (.iconst 1, 1) := by decide +kernel
theorem dX4_towards_87 : decode cX4_towards 87 = .ok (.isub, 1) := by decide +kernel
theorem dX4_towards_88 : decode cX4_towards 88 = .ok (.ireturn, 1) := by decide +kernel
theorem dX4_goes_0 : decode cX4_goes 0 = .ok (.aload_n 0, 1) := by decide +kernel
theorem dX4_goes_1 : decode cX4_goes 1 = .ok (.iload_n 1, 1) := by decide +kernel
theorem dX4_goes_2 : decode cX4_goes 2 = .ok (.invokevirtual 88, 3) := by decide +kernel
theorem dX4_goes_5 : decode cX4_goes 5 = .ok (.istore_n 2, 1) := by decide +kernel
theorem dX4_goes_6 : decode cX4_goes 6 = .ok (.aload_n 0, 1) := by decide +kernel
theorem dX4_goes_7 : decode cX4_goes 7 = .ok (.iload_n 1, 1) := by decide +kernel
theorem dX4_goes_8 : decode cX4_goes 8 = .ok (.invokevirtual 85, 3) := by decide +kernel
theorem dX4_goes_11 : decode cX4_goes 11 = .ok (.istore_n 3, 1) := by decide +kernel
theorem dX4_goes_12 : decode cX4_goes 12 = .ok (.iconst 0, 1) := by decide +kernel
theorem dX4_goes_13 : decode cX4_goes 13 = .ok (.istore 4, 2) := by decide +kernel
theorem dX4_goes_15 : decode cX4_goes 15 = .ok (.iload 4, 2) := by decide +kernel
theorem dX4_goes_17 : decode cX4_goes 17 = .ok (.iload_n 2, 1) := by decide +kernel
theorem dX4_goes_18 : decode cX4_goes 18 = .ok (.if_icmp .ge 14, 3) := by decide +kernel
theorem dX4_goes_21 : decode cX4_goes 21 = .ok (.aload_n 0, 1) := by decide +kernel
theorem dX4_goes_22 : decode cX4_goes 22 = .ok (.iload_n 1, 1) := by decide +kernel
theorem dX4_goes_23 : decode cX4_goes 23 = .ok (.invokevirtual 131, 3) := by decide +kernel
theorem dX4_goes_26 : decode cX4_goes 26 = .ok (.iinc 4 1, 3) := by decide +kernel
theorem dX4_goes_29 : decode cX4_goes 29 = .ok (.goto (-14), 3) := by decide +kernel
theorem dX4_goes_32 : decode cX4_goes 32 = .ok (.iconst 0, 1) := by decide +kernel
theorem dX4_goes_33 : decode cX4_goes 33 = .ok (.istore 4, 2) := by decide +kernel
theorem dX4_goes_35 : decode cX4_goes 35 = .ok (.iload 4, 2) := by decide +kernel
theorem dX4_goes_37 : decode cX4_goes 37 = .ok (.iload_n 3, 1) := by decide +kernel
theorem dX4_goes_38 : decode cX4_goes 38 = .ok (.if_icmp .ge 51, 3) := by decide +kernel
theorem dX4_goes_41 : decode cX4_goes 41 = .ok (.aload_n 0, 1) := by decide +kernel
theorem dX4_goes_42 : decode cX4_goes 42 = .ok (.iload_n 1, 1) := by decide +kernel
theorem dX4_goes_43 : decode cX4_goes 43 = .ok (.iconst 1, 1) := by decide +kernel
theorem dX4_goes_44 : decode cX4_goes 44 = .ok (.invokevirtual 58, 3) := by decide +kernel
theorem dX4_goes_47 : decode cX4_goes 47 = .ok (.aload_n 0, 1) := by decide +kernel
theorem dX4_goes_48 : decode cX4_goes 48 = .ok (.iload_n 1, 1) := by decide +kernel
theorem dX4_goes_49 : decode cX4_goes 49 = .ok (.iconst 3, 1) := by decide +kernel
theorem dX4_goes_50 : decode cX4_goes 50 = .ok (.invokevirtual 58, 3) := by decide +kernel
theorem dX4_goes_53 : decode cX4_goes 53 = .ok (.invokestatic 134, 3) := by decide +kernel
theorem dX4_goes_56 : decode cX4_goes 56 = .ok (.istore 5, 2) := by decide +kernel
theorem dX4_goes_58 : decode cX4_goes 58 = .ok (.iload 5, 2) := by decide +kernel
theorem dX4_goes_60 : decode cX4_goes 60 = .ok (.ifCond .ge 11, 3) := by decide +kernel
theorem dX4_goes_63 : decode cX4_goes 63 = .ok (.aload_n 0, 1) := by decide +kernel
theorem dX4_goes_64 : decode cX4_goes 64 = .ok (.iload_n 1, 1) := by decide +kernel
theorem dX4_goes_65 : decode cX4_goes 65 = .ok (.invokevirtual 131, 3) := by decide +kernel
theorem dX4_goes_68 : decode cX4_goes 68 = .ok (.goto 15, 3) := by decide +kernel
theorem dX4_goes_71 : decode cX4_goes 71 = .ok (.aload_n 0, 1) := by decide +kernel
theorem dX4_goes_72 : decode cX4_goes 72 = .ok (.getfield 7, 3) := by decide +kernel
theorem dX4_goes_75 : decode cX4_goes 75 = .ok (.iload_n 1, 1) := by decide +kernel
theorem dX4_goes_76 : decode cX4_goes 76 = .ok (.iconst 1, 1) := by decide +kernel
theorem dX4_goes_77 : decode cX4_goes 77 = .ok (.invokestatic 54, 3) := by decide +kernel
theorem dX4_goes_80 : decode cX4_goes 80 = .ok (.iload 5, 2) := by decide +kernel
theorem dX4_goes_82 : decode cX4_goes 82 = .ok (.iastore, 1) := by decide +kernel
theorem dX4_goes_83 : decode cX4_goes 83 = .ok (.iinc 4 1, 3) := by decide +kernel
theorem dX4_goes_86 : decode cX4_goes 86 = .ok (.goto (-51), 3) := by decide +kernel
theorem dX4_goes_89 : decode cX4_goes 89 = .ok (.aload_n 0, 1) := by decide +kernel
theorem dX4_goes_90 : decode cX4_goes 90 = .ok (.iload_n 1, 1) := by decide +kernel
theorem dX4_goes_91 : decode cX4_goes 91 = .ok (.aload_n 0, 1) := by decide +kernel
theorem dX4_goes_92 : decode cX4_goes 92 = .ok (.iload_n 1, 1) := by decide +kernel
theorem dX4_goes_93 : decode cX4_goes 93 = .ok (.iconst 1, 1) := by decide +kernel
theorem dX4_goes_94 : decode cX4_goes 94 = .ok (.invokevirtual 58, 3) := by decide +kernel
theorem dX4_goes_97 : decode cX4_goes 97 = .ok (.invokevirtual 102, 3) := by decide +kernel
theorem dX4_goes_100 : decode cX4_goes 100 = .ok (.return_, 1) := by decide +kernel
theorem dX4_meetAt_0 : decode cX4_meetAt 0 = .ok (.iconst (-1), 1) := by decide +kernel
theorem dX4_meetAt_1 : decode cX4_meetAt 1 = .ok (.istore_n 2, 1) := by decide +kernel
theorem dX4_meetAt_2 : decode cX4_meetAt 2 = .ok (.iconst 0, 1) := by decide +kernel
theorem dX4_meetAt_3 : decode cX4_meetAt 3 = .ok (.istore_n 3, 1) := by decide +kernel
theorem dX4_meetAt_4 : decode cX4_meetAt 4 = .ok (.iload_n 3, 1) := by decide +kernel
theorem dX4_meetAt_5 : decode cX4_meetAt 5 = .ok (.aload_n 0, 1) := by decide +kernel
theorem dX4_meetAt_6 : decode cX4_meetAt 6 = .ok (.getfield 7, 3) := by decide +kernel
theorem dX4_meetAt_9 : decode cX4_meetAt 9 = .ok (.iconst 0, 1) := by decide +kernel
theorem dX4_meetAt_10 : decode cX4_meetAt 10 = .ok (.iaload, 1) := by decide +kernel
theorem dX4_meetAt_11 : decode cX4_meetAt 11 = .ok (.if_icmp .ge 44, 3) := by decide +kernel
theorem dX4_meetAt_14 : decode cX4_meetAt 14 = .ok (.aload_n 0, 1) := by decide +kernel
theorem dX4_meetAt_15 : decode cX4_meetAt 15 = .ok (.iload_n 3, 1) := by decide +kernel
theorem dX4_meetAt_16 : decode cX4_meetAt 16 = .ok (.invokevirtual 95, 3) := by decide +kernel
theorem dX4_meetAt_19 : decode cX4_meetAt 19 = .ok (.ifCond .eq 30, 3) := by decide +kernel
theorem dX4_meetAt_22 : decode cX4_meetAt 22 = .ok (.aload_n 0, 1) := by decide +kernel
theorem dX4_meetAt_23 : decode cX4_meetAt 23 = .ok (.iload_n 3, 1) := by decide +kernel
theorem dX4_meetAt_24 : decode cX4_meetAt 24 = .ok (.iconst 1, 1) := by decide +kernel
theorem dX4_meetAt_25 : decode cX4_meetAt 25 = .ok (.invokevirtual 58, 3) := by decide +kernel
theorem dX4_meetAt_28 : decode cX4_meetAt 28 = .ok (.iload_n 1, 1) := by decide +kernel
theorem dX4_meetAt_29 : decode cX4_meetAt 29 = .ok (.if_icmp .ne 20, 3) := by decide +kernel
theorem dX4_meetAt_32 : decode cX4_meetAt 32 = .ok (.iload_n 2, 1) := by decide +kernel
theorem dX4_meetAt_33 : decode cX4_meetAt 33 = .ok (.ifCond .lt 14, 3) := by decide +kernel
theorem dX4_meetAt_36 : decode cX4_meetAt 36 = .ok (.aload_n 0, 1) := by decide +kernel
theorem dX4_meetAt_37 : decode cX4_meetAt 37 = .ok (.iload_n 2, 1) := by decide +kernel
theorem dX4_meetAt_38 : decode cX4_meetAt 38 = .ok (.iload_n 3, 1) := by decide +kernel
theorem dX4_meetAt_39 : decode cX4_meetAt 39 = .ok (.invokevirtual 121, 3) := by decide +kernel
theorem dX4_meetAt_42 : decode cX4_meetAt 42 = .ok (.iconst (-1), 1) := by decide +kernel
theorem dX4_meetAt_43 : decode cX4_meetAt 43 = .ok (.istore_n 2, 1) := by decide +kernel
theorem dX4_meetAt_44 : decode cX4_meetAt 44 = .ok (.goto 5, 3) := by decide +kernel
theorem dX4_meetAt_47 : decode cX4_meetAt 47 = .ok (.iload_n 3, 1) := by decide +kernel
theorem dX4_meetAt_48 : decode cX4_meetAt 48 = .ok (.istore_n 2, 1) := by decide +kernel
theorem dX4_meetAt_49 : decode cX4_meetAt 49 = .ok (.iinc 3 1, 3) := by decide +kernel
theorem dX4_meetAt_52 : decode cX4_meetAt 52 = .ok (.goto (-48), 3) := by decide +kernel
theorem dX4_meetAt_55 : decode cX4_meetAt 55 = .ok (.iload_n 2, 1) := by decide +kernel
theorem dX4_meetAt_56 : decode cX4_meetAt 56 = .ok (.ifCond .lt 29, 3) := by decide +kernel
theorem dX4_meetAt_59 : decode cX4_meetAt 59 = .ok (.aload_n 0, 1) := by decide +kernel
theorem dX4_meetAt_60 : decode cX4_meetAt 60 = .ok (.iload_n 2, 1) := by decide +kernel
theorem dX4_meetAt_61 : decode cX4_meetAt 61 = .ok (.iconst 0, 1) := by decide +kernel
theorem dX4_meetAt_62 : decode cX4_meetAt 62 = .ok (.invokevirtual 58, 3) := by decide +kernel
theorem dX4_meetAt_65 : decode cX4_meetAt 65 = .ok (.iconst 5, 1) := by decide +kernel
theorem dX4_meetAt_66 : decode cX4_meetAt 66 = .ok (.if_icmp .ne 19, 3) := by decide +kernel
theorem dX4_meetAt_69 : decode cX4_meetAt 69 = .ok (.aload_n 0, 1) := by decide +kernel
theorem dX4_meetAt_70 : decode cX4_meetAt 70 = .ok (.iload_n 2, 1) := by decide +kernel
theorem dX4_meetAt_71 : decode cX4_meetAt 71 = .ok (.iconst 2, 1) := by decide +kernel
theorem dX4_meetAt_72 : decode cX4_meetAt 72 = .ok (.invokevirtual 58, 3) := by decide +kernel
theorem dX4_meetAt_75 : decode cX4_meetAt 75 = .ok (.iload_n 1, 1) := by decide +kernel
theorem dX4_meetAt_76 : decode cX4_meetAt 76 = .ok (.if_icmp .ne 9, 3) := by decide +kernel
theorem dX4_meetAt_79 : decode cX4_meetAt 79 = .ok (.aload_n 0, 1) := by decide +kernel
theorem dX4_meetAt_80 : decode cX4_meetAt 80 = .ok (.iload_n 2, 1) := by decide +kernel
theorem dX4_meetAt_81 : decode cX4_meetAt 81 = .ok (.iload_n 2, 1) := by decide +kernel
theorem dX4_meetAt_82 : decode cX4_meetAt 82 = .ok (.invokevirtual 121, 3) := by decide +kernel
theorem dX4_meetAt_85 : decode cX4_meetAt 85 = .ok (.return_, 1) := by decide +kernel
theorem dX4_goesHour_0 : decode cX4_goesHour 0 = .ok (.aload_n 0, 1) := by decide +kernel
theorem dX4_goesHour_1 : decode cX4_goesHour 1 = .ok (.invokevirtual 137, 3) := by decide +kernel
theorem dX4_goesHour_4 : decode cX4_goesHour 4 = .ok (.istore_n 1, 1) := by decide +kernel
theorem dX4_goesHour_5 : decode cX4_goesHour 5 = .ok (.iconst 0, 1) := by decide +kernel
theorem dX4_goesHour_6 : decode cX4_goesHour 6 = .ok (.istore_n 2, 1) := by decide +kernel
theorem dX4_goesHour_7 : decode cX4_goesHour 7 = .ok (.iload_n 2, 1) := by decide +kernel
theorem dX4_goesHour_8 : decode cX4_goesHour 8 = .ok (.aload_n 0, 1) := by decide +kernel
theorem dX4_goesHour_9 : decode cX4_goesHour 9 = .ok (.getfield 7, 3) := by decide +kernel
theorem dX4_goesHour_12 : decode cX4_goesHour 12 = .ok (.iconst 0, 1) := by decide +kernel
theorem dX4_goesHour_13 : decode cX4_goesHour 13 = .ok (.iaload, 1) := by decide +kernel
theorem dX4_goesHour_14 : decode cX4_goesHour 14 = .ok (.if_icmp .ge 33, 3) := by decide +kernel
theorem dX4_goesHour_17 : decode cX4_goesHour 17 = .ok (.iload_n 1, 1) := by decide +kernel
theorem dX4_goesHour_18 : decode cX4_goesHour 18 = .ok (.ifCond .ne 29, 3) := by decide +kernel
theorem dX4_goesHour_21 : decode cX4_goesHour 21 = .ok (.aload_n 0, 1) := by decide +kernel
theorem dX4_goesHour_22 : decode cX4_goesHour 22 = .ok (.iload_n 2, 1) := by decide +kernel
theorem dX4_goesHour_23 : decode cX4_goesHour 23 = .ok (.iconst 1, 1) := by decide +kernel
theorem dX4_goesHour_24 : decode cX4_goesHour 24 = .ok (.invokevirtual 58, 3) := by decide +kernel
theorem dX4_goesHour_27 : decode cX4_goesHour 27 = .ok (.aload_n 0, 1) := by decide +kernel
theorem dX4_goesHour_28 : decode cX4_goesHour 28 = .ok (.getfield 7, 3) := by decide +kernel
theorem dX4_goesHour_31 : decode cX4_goesHour 31 = .ok (.iconst 3, 1) := by decide +kernel
theorem dX4_goesHour_32 : decode cX4_goesHour 32 = .ok (.iaload, 1) := by decide +kernel
theorem dX4_goesHour_33 : decode cX4_goesHour 33 = .ok (.if_icmp .eq 8, 3) := by decide +kernel
theorem dX4_goesHour_36 : decode cX4_goesHour 36 = .ok (.aload_n 0, 1) := by decide +kernel
theorem dX4_goesHour_37 : decode cX4_goesHour 37 = .ok (.iload_n 2, 1) := by decide +kernel
theorem dX4_goesHour_38 : decode cX4_goesHour 38 = .ok (.invokevirtual 110, 3) := by decide +kernel
theorem dX4_goesHour_41 : decode cX4_goesHour 41 = .ok (.iinc 2 1, 3) := by decide +kernel
theorem dX4_goesHour_44 : decode cX4_goesHour 44 = .ok (.goto (-37), 3) := by decide +kernel
theorem dX4_goesHour_47 : decode cX4_goesHour 47 = .ok (.iconst 0, 1) := by decide +kernel
theorem dX4_goesHour_48 : decode cX4_goesHour 48 = .ok (.istore_n 2, 1) := by decide +kernel
theorem dX4_goesHour_49 : decode cX4_goesHour 49 = .ok (.iload_n 2, 1) := by decide +kernel
theorem dX4_goesHour_50 : decode cX4_goesHour 50 = .ok (.aload_n 0, 1) := by decide +kernel
theorem dX4_goesHour_51 : decode cX4_goesHour 51 = .ok (.getfield 7, 3) := by decide +kernel
theorem dX4_goesHour_54 : decode cX4_goesHour 54 = .ok (.iconst 0, 1) := by decide +kernel
theorem dX4_goesHour_55 : decode cX4_goesHour 55 = .ok (.iaload, 1) := by decide +kernel
theorem dX4_goesHour_56 : decode cX4_goesHour 56 = .ok (.if_icmp .ge 32, 3) := by decide +kernel
theorem dX4_goesHour_59 : decode cX4_goesHour 59 = .ok (.aload_n 0, 1) := by decide +kernel
theorem dX4_goesHour_60 : decode cX4_goesHour 60 = .ok (.iload_n 2, 1) := by decide +kernel
theorem dX4_goesHour_61 : decode cX4_goesHour 61 = .ok (.invokevirtual 95, 3) := by decide +kernel
theorem dX4_goesHour_64 : decode cX4_goesHour 64 = .ok (.ifCond .ne 13, 3) := by decide +kernel
theorem dX4_goesHour_67 : decode cX4_goesHour 67 = .ok (.aload_n 0, 1) := by decide +kernel
theorem dX4_goesHour_68 : decode cX4_goesHour 68 = .ok (.iload_n 2, 1) := by decide +kernel
theorem dX4_goesHour_69 : decode cX4_goesHour 69 = .ok (.iconst 5, 1) := by decide +kernel
theorem dX4_goesHour_70 : decode cX4_goesHour 70 = .ok (.invokevirtual 58, 3) := by decide +kernel
theorem dX4_goesHour_73 : decode cX4_goesHour 73 = .ok (.iload_n 2, 1) := by decide +kernel
theorem dX4_goesHour_74 : decode cX4_goesHour 74 = .ok (.if_icmp .lt 8, 3) := by decide +kernel
theorem dX4_goesHour_77 : decode cX4_goesHour 77 = .ok (.aload_n 0, 1) := by decide +kernel
theorem dX4_goesHour_78 : decode cX4_goesHour 78 = .ok (.iload_n 2, 1) := by decide +kernel
theorem dX4_goesHour_79 : decode cX4_goesHour 79 = .ok (.invokevirtual 141, 3) := by decide +kernel
theorem dX4_goesHour_82 : decode cX4_goesHour 82 = .ok (.iinc 2 1, 3) := by decide +kernel
theorem dX4_goesHour_85 : decode cX4_goesHour 85 = .ok (.goto (-36), 3) := by decide +kernel
theorem dX4_goesHour_88 : decode cX4_goesHour 88 = .ok (.iconst 0, 1) := by decide +kernel
theorem dX4_goesHour_89 : decode cX4_goesHour 89 = .ok (.istore_n 2, 1) := by decide +kernel
theorem dX4_goesHour_90 : decode cX4_goesHour 90 = .ok (.iload_n 2, 1) := by decide +kernel
theorem dX4_goesHour_91 : decode cX4_goesHour 91 = .ok (.bipush 36, 2) := by decide +kernel
theorem dX4_goesHour_93 : decode cX4_goesHour 93 = .ok (.if_icmp .ge 18, 3) := by decide +kernel
theorem dX4_goesHour_96 : decode cX4_goesHour 96 = .ok (.iload_n 1, 1) := by decide +kernel
theorem dX4_goesHour_97 : decode cX4_goesHour 97 = .ok (.ifCond .eq 14, 3) := by decide +kernel
theorem dX4_goesHour_100 : decode cX4_goesHour 100 = .ok (.aload_n 0, 1) := by decide +kernel
theorem dX4_goesHour_101 : decode cX4_goesHour 101 = .ok (.iload_n 2, 1) := by decide +kernel
theorem dX4_goesHour_102 : decode cX4_goesHour 102 = .ok (.invokevirtual 144, 3) := by decide +kernel
theorem dX4_goesHour_105 : decode cX4_goesHour 105 = .ok (.iinc 2 1, 3) := by decide +kernel
theorem dX4_goesHour_108 : decode cX4_goesHour 108 = .ok (.goto (-18), 3) := by decide +kernel
theorem dX4_goesHour_111 : decode cX4_goesHour 111 = .ok (.aload_n 0, 1) := by decide +kernel
theorem dX4_goesHour_112 : decode cX4_goesHour 112 = .ok (.getfield 7, 3) := by decide +kernel
theorem dX4_goesHour_115 : decode cX4_goesHour 115 = .ok (.iconst 1, 1) := by decide +kernel
theorem dX4_goesHour_116 : decode cX4_goesHour 116 = .ok (.dup2, 1) := by decide +kernel
theorem dX4_goesHour_117 : decode cX4_goesHour 117 = .ok (.iaload, 1) := by decide +kernel
theorem dX4_goesHour_118 : decode cX4_goesHour 118 = .ok (.iconst 1, 1) := by decide +kernel
theorem dX4_goesHour_119 : decode cX4_goesHour 119 = .ok (.iadd, 1) := by decide +kernel
theorem dX4_goesHour_120 : decode cX4_goesHour 120 = .ok (.iastore, 1) := by decide +kernel
theorem dX4_goesHour_121 : decode cX4_goesHour 121 = .ok (.return_, 1) := by decide +kernel
theorem dX4_hoursGo_0 : decode cX4_hoursGo 0 = .ok (.iconst 0, 1) := by decide +kernel
theorem dX4_hoursGo_1 : decode cX4_hoursGo 1 = .ok (.istore_n 2, 1) := by decide +kernel
theorem dX4_hoursGo_2 : decode cX4_hoursGo 2 = .ok (.iload_n 2, 1) := by decide +kernel
theorem dX4_hoursGo_3 : decode cX4_hoursGo 3 = .ok (.iload_n 1, 1) := by decide +kernel
theorem dX4_hoursGo_4 : decode cX4_hoursGo 4 = .ok (.if_icmp .ge 13, 3) := by decide +kernel
theorem dX4_hoursGo_7 : decode cX4_hoursGo 7 = .ok (.aload_n 0, 1) := by decide +kernel
theorem dX4_hoursGo_8 : decode cX4_hoursGo 8 = .ok (.invokevirtual 147, 3) := by decide +kernel
theorem dX4_hoursGo_11 : decode cX4_hoursGo 11 = .ok (.iinc 2 1, 3) := by decide +kernel
theorem dX4_hoursGo_14 : decode cX4_hoursGo 14 = .ok (.goto (-12), 3) := by decide +kernel
theorem dX4_hoursGo_17 : decode cX4_hoursGo 17 = .ok (.return_, 1) := by decide +kernel
theorem dX4_hours_0 : decode cX4_hours 0 = .ok (.iload_n 1, 1) := by decide +kernel
theorem dX4_hours_1 : decode cX4_hours 1 = .ok (.i2l, 1) := by decide +kernel
theorem dX4_hours_2 : decode cX4_hours 2 = .ok (.lconst 1, 1) := by decide +kernel
theorem dX4_hours_3 : decode cX4_hours 3 = .ok (.ldc2_w 150, 3) := by decide +kernel
theorem dX4_hours_6 : decode cX4_hours 6 = .ok (.invokestatic 44, 3) := by decide +kernel
theorem dX4_hours_9 : decode cX4_hours 9 = .ok (.ifCond .ne 10, 3) := by decide +kernel
theorem dX4_hours_12 : decode cX4_hours 12 = .ok (.aload_n 0, 1) := by decide +kernel
theorem dX4_hours_13 : decode cX4_hours 13 = .ok (.ldc 41, 2) := by decide +kernel
theorem dX4_hours_15 : decode cX4_hours 15 = .ok (.invokevirtual 66, 3) := by decide +kernel
theorem dX4_hours_18 : decode cX4_hours 18 = .ok (.ireturn, 1) := by decide +kernel
theorem dX4_hours_19 : decode cX4_hours 19 = .ok (.aload_n 0, 1) := by decide +kernel
theorem dX4_hours_20 : decode cX4_hours 20 = .ok (.getfield 7, 3) := by decide +kernel
theorem dX4_hours_23 : decode cX4_hours 23 = .ok (.iconst 1, 1) := by decide +kernel
theorem dX4_hours_24 : decode cX4_hours 24 = .ok (.iaload, 1) := by decide +kernel
theorem dX4_hours_25 : decode cX4_hours 25 = .ok (.iload_n 1, 1) := by decide +kernel
theorem dX4_hours_26 : decode cX4_hours 26 = .ok (.iadd, 1) := by decide +kernel
theorem dX4_hours_27 : decode cX4_hours 27 = .ok (.ldc 152, 2) := by decide +kernel
theorem dX4_hours_29 : decode cX4_hours 29 = .ok (.if_icmp .le 10, 3) := by decide +kernel
theorem dX4_hours_32 : decode cX4_hours 32 = .ok (.aload_n 0, 1) := by decide +kernel
theorem dX4_hours_33 : decode cX4_hours 33 = .ok (.ldc 114, 2) := by decide +kernel
theorem dX4_hours_35 : decode cX4_hours 35 = .ok (.invokevirtual 66, 3) := by decide +kernel
theorem dX4_hours_38 : decode cX4_hours 38 = .ok (.ireturn, 1) := by decide +kernel
theorem dX4_hours_39 : decode cX4_hours 39 = .ok (.aload_n 0, 1) := by decide +kernel
theorem dX4_hours_40 : decode cX4_hours 40 = .ok (.iload_n 1, 1) := by decide +kernel
theorem dX4_hours_41 : decode cX4_hours 41 = .ok (.invokevirtual 153, 3) := by decide +kernel
theorem dX4_hours_44 : decode cX4_hours 44 = .ok (.aload_n 0, 1) := by decide +kernel
theorem dX4_hours_45 : decode cX4_hours 45 = .ok (.invokevirtual 124, 3) := by decide +kernel
theorem dX4_hours_48 : decode cX4_hours 48 = .ok (.ireturn, 1) := by decide +kernel
theorem dX4_isGlad_0 : decode cX4_isGlad 0 = .ok (.aload_n 0, 1) := by decide +kernel
theorem dX4_isGlad_1 : decode cX4_isGlad 1 = .ok (.iload_n 1, 1) := by decide +kernel
theorem dX4_isGlad_2 : decode cX4_isGlad 2 = .ok (.invokevirtual 95, 3) := by decide +kernel
theorem dX4_isGlad_5 : decode cX4_isGlad 5 = .ok (.ifCond .ne 33, 3) := by decide +kernel
theorem dX4_isGlad_8 : decode cX4_isGlad 8 = .ok (.aload_n 0, 1) := by decide +kernel
theorem dX4_isGlad_9 : decode cX4_isGlad 9 = .ok (.iload_n 1, 1) := by decide +kernel
theorem dX4_isGlad_10 : decode cX4_isGlad 10 = .ok (.iconst 5, 1) := by decide +kernel
theorem dX4_isGlad_11 : decode cX4_isGlad 11 = .ok (.invokevirtual 58, 3) := by decide +kernel
theorem dX4_isGlad_14 : decode cX4_isGlad 14 = .ok (.iload_n 1, 1) := by decide +kernel
theorem dX4_isGlad_15 : decode cX4_isGlad 15 = .ok (.if_icmp .eq 23, 3) := by decide +kernel
theorem dX4_isGlad_18 : decode cX4_isGlad 18 = .ok (.aload_n 0, 1) := by decide +kernel
theorem dX4_isGlad_19 : decode cX4_isGlad 19 = .ok (.iload_n 1, 1) := by decide +kernel
theorem dX4_isGlad_20 : decode cX4_isGlad 20 = .ok (.bipush 6, 2) := by decide +kernel
theorem dX4_isGlad_22 : decode cX4_isGlad 22 = .ok (.invokevirtual 58, 3) := by decide +kernel
theorem dX4_isGlad_25 : decode cX4_isGlad 25 = .ok (.aload_n 0, 1) := by decide +kernel
theorem dX4_isGlad_26 : decode cX4_isGlad 26 = .ok (.iload_n 1, 1) := by decide +kernel
theorem dX4_isGlad_27 : decode cX4_isGlad 27 = .ok (.iconst 4, 1) := by decide +kernel
theorem dX4_isGlad_28 : decode cX4_isGlad 28 = .ok (.invokevirtual 58, 3) := by decide +kernel
theorem dX4_isGlad_31 : decode cX4_isGlad 31 = .ok (.if_icmp .ne 7, 3) := by decide +kernel
theorem dX4_isGlad_34 : decode cX4_isGlad 34 = .ok (.iconst 1, 1) := by decide +kernel
theorem dX4_isGlad_35 : decode cX4_isGlad 35 = .ok (.goto 4, 3) := by decide +kernel
theorem dX4_isGlad_38 : decode cX4_isGlad 38 = .ok (.iconst 0, 1) := by decide +kernel
theorem dX4_isGlad_39 : decode cX4_isGlad 39 = .ok (.ireturn, 1) := by decide +kernel
theorem dX4_thoseGlad_0 : decode cX4_thoseGlad 0 = .ok (.iconst 0, 1) := by decide +kernel
theorem dX4_thoseGlad_1 : decode cX4_thoseGlad 1 = .ok (.istore_n 1, 1) := by decide +kernel
theorem dX4_thoseGlad_2 : decode cX4_thoseGlad 2 = .ok (.iconst 0, 1) := by decide +kernel
theorem dX4_thoseGlad_3 : decode cX4_thoseGlad 3 = .ok (.istore_n 2, 1) := by decide +kernel
theorem dX4_thoseGlad_4 : decode cX4_thoseGlad 4 = .ok (.iload_n 2, 1) := by decide +kernel
theorem dX4_thoseGlad_5 : decode cX4_thoseGlad 5 = .ok (.aload_n 0, 1) := by decide +kernel
theorem dX4_thoseGlad_6 : decode cX4_thoseGlad 6 = .ok (.getfield 7, 3) := by decide +kernel
theorem dX4_thoseGlad_9 : decode cX4_thoseGlad 9 = .ok (.iconst 0, 1) := by decide +kernel
theorem dX4_thoseGlad_10 : decode cX4_thoseGlad 10 = .ok (.iaload, 1) := by decide +kernel
theorem dX4_thoseGlad_11 : decode cX4_thoseGlad 11 = .ok (.if_icmp .ge 27, 3) := by decide +kernel
theorem dX4_thoseGlad_14 : decode cX4_thoseGlad 14 = .ok (.iload_n 1, 1) := by decide +kernel
theorem dX4_thoseGlad_15 : decode cX4_thoseGlad 15 = .ok (.aload_n 0, 1) := by decide +kernel
theorem dX4_thoseGlad_16 : decode cX4_thoseGlad 16 = .ok (.iload_n 2, 1) := by decide +kernel
theorem dX4_thoseGlad_17 : decode cX4_thoseGlad 17 = .ok (.invokevirtual 156, 3) := by decide +kernel
theorem dX4_thoseGlad_20 : decode cX4_thoseGlad 20 = .ok (.ifCond .eq 9, 3) := by decide +kernel
theorem dX4_thoseGlad_23 : decode cX4_thoseGlad 23 = .ok (.iconst 1, 1) := by decide +kernel
theorem dX4_thoseGlad_24 : decode cX4_thoseGlad 24 = .ok (.iload_n 2, 1) := by decide +kernel
theorem dX4_thoseGlad_25 : decode cX4_thoseGlad 25 = .ok (.ishl, 1) := by decide +kernel
theorem dX4_thoseGlad_26 : decode cX4_thoseGlad 26 = .ok (.goto 4, 3) := by decide +kernel
theorem dX4_thoseGlad_29 : decode cX4_thoseGlad 29 = .ok (.iconst 0, 1) := by decide +kernel
theorem dX4_thoseGlad_30 : decode cX4_thoseGlad 30 = .ok (.ior, 1) := by decide +kernel
theorem dX4_thoseGlad_31 : decode cX4_thoseGlad 31 = .ok (.istore_n 1, 1) := by decide +kernel
theorem dX4_thoseGlad_32 : decode cX4_thoseGlad 32 = .ok (.iinc 2 1, 3) := by decide +kernel
theorem dX4_thoseGlad_35 : decode cX4_thoseGlad 35 = .ok (.goto (-31), 3) := by decide +kernel
theorem dX4_thoseGlad_38 : decode cX4_thoseGlad 38 = .ok (.iload_n 1, 1) := by decide +kernel
theorem dX4_thoseGlad_39 : decode cX4_thoseGlad 39 = .ok (.ireturn, 1) := by decide +kernel
theorem dX4_now_0 : decode cX4_now 0 = .ok (.iload_n 1, 1) := by decide +kernel
theorem dX4_now_1 : decode cX4_now 1 = .ok (.tableswitch 83 0 5 #[39, 46, 53, 66, 71, 76], 39) := by decide +kernel
theorem dX4_now_40 : decode cX4_now 40 = .ok (.aload_n 0, 1) := by decide +kernel
theorem dX4_now_41 : decode cX4_now 41 = .ok (.getfield 7, 3) := by decide +kernel
theorem dX4_now_44 : decode cX4_now 44 = .ok (.iconst 1, 1) := by decide +kernel
theorem dX4_now_45 : decode cX4_now 45 = .ok (.iaload, 1) := by decide +kernel
theorem dX4_now_46 : decode cX4_now 46 = .ok (.ireturn, 1) := by decide +kernel
theorem dX4_now_47 : decode cX4_now 47 = .ok (.aload_n 0, 1) := by decide +kernel
theorem dX4_now_48 : decode cX4_now 48 = .ok (.getfield 7, 3) := by decide +kernel
theorem dX4_now_51 : decode cX4_now 51 = .ok (.iconst 2, 1) := by decide +kernel
theorem dX4_now_52 : decode cX4_now 52 = .ok (.iaload, 1) := by decide +kernel
theorem dX4_now_53 : decode cX4_now 53 = .ok (.ireturn, 1) := by decide +kernel
theorem dX4_now_54 : decode cX4_now 54 = .ok (.aload_n 0, 1) := by decide +kernel
theorem dX4_now_55 : decode cX4_now 55 = .ok (.invokevirtual 137, 3) := by decide +kernel
theorem dX4_now_58 : decode cX4_now 58 = .ok (.ifCond .eq 7, 3) := by decide +kernel
theorem dX4_now_61 : decode cX4_now 61 = .ok (.iconst 1, 1) := by decide +kernel
theorem dX4_now_62 : decode cX4_now 62 = .ok (.goto 4, 3) := by decide +kernel
theorem dX4_now_65 : decode cX4_now 65 = .ok (.iconst 0, 1) := by decide +kernel
theorem dX4_now_66 : decode cX4_now 66 = .ok (.ireturn, 1) := by decide +kernel
theorem dX4_now_67 : decode cX4_now 67 = .ok (.aload_n 0, 1) := by decide +kernel
theorem dX4_now_68 : decode cX4_now 68 = .ok (.invokevirtual 124, 3) := by decide +kernel
theorem dX4_now_71 : decode cX4_now 71 = .ok (.ireturn, 1) := by decide +kernel
theorem dX4_now_72 : decode cX4_now 72 = .ok (.aload_n 0, 1) := by decide +kernel
theorem dX4_now_73 : decode cX4_now 73 = .ok (.invokevirtual 159, 3) := by decide +kernel
theorem dX4_now_76 : decode cX4_now 76 = .ok (.ireturn, 1) := by decide +kernel
theorem dX4_now_77 : decode cX4_now 77 = .ok (.aload_n 0, 1) := by decide +kernel
theorem dX4_now_78 : decode cX4_now 78 = .ok (.getfield 7, 3) := by decide +kernel
theorem dX4_now_81 : decode cX4_now 81 = .ok (.iconst 3, 1) := by decide +kernel
theorem dX4_now_82 : decode cX4_now 82 = .ok (.iaload, 1) := by decide +kernel
theorem dX4_now_83 : decode cX4_now 83 = .ok (.ireturn, 1) := by decide +kernel
theorem dX4_now_84 : decode cX4_now 84 = .ok (.aload_n 0, 1) := by decide +kernel
theorem dX4_now_85 : decode cX4_now 85 = .ok (.ldc 41, 2) := by decide +kernel
theorem dX4_now_87 : decode cX4_now 87 = .ok (.invokevirtual 66, 3) := by decide +kernel
theorem dX4_now_90 : decode cX4_now 90 = .ok (.ireturn, 1) := by decide +kernel
theorem dX4_on_0 : decode cX4_on 0 = .ok (.aload_n 0, 1) := by decide +kernel
theorem dX4_on_1 : decode cX4_on 1 = .ok (.iload_n 1, 1) := by decide +kernel
theorem dX4_on_2 : decode cX4_on 2 = .ok (.invokevirtual 48, 3) := by decide +kernel
theorem dX4_on_5 : decode cX4_on 5 = .ok (.ifCond .eq 27, 3) := by decide +kernel
theorem dX4_on_8 : decode cX4_on 8 = .ok (.iload_n 2, 1) := by decide +kernel
theorem dX4_on_9 : decode cX4_on 9 = .ok (.i2l, 1) := by decide +kernel
theorem dX4_on_10 : decode cX4_on 10 = .ok (.lconst 0, 1) := by decide +kernel
theorem dX4_on_11 : decode cX4_on 11 = .ok (.ldc2_w 150, 3) := by decide +kernel
theorem dX4_on_14 : decode cX4_on 14 = .ok (.invokestatic 44, 3) := by decide +kernel
theorem dX4_on_17 : decode cX4_on 17 = .ok (.ifCond .eq 15, 3) := by decide +kernel
theorem dX4_on_20 : decode cX4_on 20 = .ok (.iload_n 3, 1) := by decide +kernel
theorem dX4_on_21 : decode cX4_on 21 = .ok (.i2l, 1) := by decide +kernel
theorem dX4_on_22 : decode cX4_on 22 = .ok (.lconst 0, 1) := by decide +kernel
theorem dX4_on_23 : decode cX4_on 23 = .ok (.ldc2_w 162, 3) := by decide +kernel
theorem dX4_on_26 : decode cX4_on 26 = .ok (.invokestatic 44, 3) := by decide +kernel
theorem dX4_on_29 : decode cX4_on 29 = .ok (.ifCond .ne 10, 3) := by decide +kernel
theorem dX4_on_32 : decode cX4_on 32 = .ok (.aload_n 0, 1) := by decide +kernel
theorem dX4_on_33 : decode cX4_on 33 = .ok (.ldc 41, 2) := by decide +kernel
theorem dX4_on_35 : decode cX4_on 35 = .ok (.invokevirtual 66, 3) := by decide +kernel
theorem dX4_on_38 : decode cX4_on 38 = .ok (.ireturn, 1) := by decide +kernel
theorem dX4_on_39 : decode cX4_on 39 = .ok (.aload_n 0, 1) := by decide +kernel
theorem dX4_on_40 : decode cX4_on 40 = .ok (.invokevirtual 164, 3) := by decide +kernel
theorem dX4_on_43 : decode cX4_on 43 = .ok (.aload_n 0, 1) := by decide +kernel
theorem dX4_on_44 : decode cX4_on 44 = .ok (.iload_n 2, 1) := by decide +kernel
theorem dX4_on_45 : decode cX4_on 45 = .ok (.invokevirtual 153, 3) := by decide +kernel
theorem dX4_on_48 : decode cX4_on 48 = .ok (.aload_n 0, 1) := by decide +kernel
theorem dX4_on_49 : decode cX4_on 49 = .ok (.aload_n 0, 1) := by decide +kernel
theorem dX4_on_50 : decode cX4_on 50 = .ok (.iload_n 1, 1) := by decide +kernel
theorem dX4_on_51 : decode cX4_on 51 = .ok (.iload_n 3, 1) := by decide +kernel
theorem dX4_on_52 : decode cX4_on 52 = .ok (.ifCond .ne 7, 3) := by decide +kernel
theorem dX4_on_55 : decode cX4_on 55 = .ok (.iconst 1, 1) := by decide +kernel
theorem dX4_on_56 : decode cX4_on 56 = .ok (.goto 14, 3) := by decide +kernel
theorem dX4_on_59 : decode cX4_on 59 = .ok (.iload_n 3, 1) := by decide +kernel
theorem dX4_on_60 : decode cX4_on 60 = .ok (.iconst 1, 1) := by decide +kernel
theorem dX4_on_61 : decode cX4_on 61 = .ok (.if_icmp .ne 7, 3) := by decide +kernel
theorem dX4_on_64 : decode cX4_on 64 = .ok (.iconst 5, 1) := by decide +kernel
theorem dX4_on_65 : decode cX4_on 65 = .ok (.goto 5, 3) := by decide +kernel
theorem dX4_on_68 : decode cX4_on 68 = .ok (.bipush 6, 2) := by decide +kernel
theorem dX4_on_70 : decode cX4_on 70 = .ok (.invokevirtual 58, 3) := by decide +kernel
theorem dX4_on_73 : decode cX4_on 73 = .ok (.invokevirtual 167, 3) := by decide +kernel
theorem dX4_on_76 : decode cX4_on 76 = .ok (.ireturn, 1) := by decide +kernel
theorem dX4_isSo_0 : decode cX4_isSo 0 = .ok (.iload_n 1, 1) := by decide +kernel
theorem dX4_isSo_1 : decode cX4_isSo 1 = .ok (.ifCond .ne 21, 3) := by decide +kernel
theorem dX4_isSo_4 : decode cX4_isSo 4 = .ok (.aload_n 0, 1) := by decide +kernel
theorem dX4_isSo_5 : decode cX4_isSo 5 = .ok (.iload_n 2, 1) := by decide +kernel
theorem dX4_isSo_6 : decode cX4_isSo 6 = .ok (.iconst 5, 1) := by decide +kernel
theorem dX4_isSo_7 : decode cX4_isSo 7 = .ok (.invokevirtual 58, 3) := by decide +kernel
theorem dX4_isSo_10 : decode cX4_isSo 10 = .ok (.iload_n 3, 1) := by decide +kernel
theorem dX4_isSo_11 : decode cX4_isSo 11 = .ok (.if_icmp .ne 7, 3) := by decide +kernel
theorem dX4_isSo_14 : decode cX4_isSo 14 = .ok (.iconst 1, 1) := by decide +kernel
theorem dX4_isSo_15 : decode cX4_isSo 15 = .ok (.goto 46, 3) := by decide +kernel
theorem dX4_isSo_18 : decode cX4_isSo 18 = .ok (.iconst 0, 1) := by decide +kernel
theorem dX4_isSo_19 : decode cX4_isSo 19 = .ok (.goto 42, 3) := by decide +kernel
theorem dX4_isSo_22 : decode cX4_isSo 22 = .ok (.iload_n 1, 1) := by decide +kernel
theorem dX4_isSo_23 : decode cX4_isSo 23 = .ok (.iconst 1, 1) := by decide +kernel
theorem dX4_isSo_24 : decode cX4_isSo 24 = .ok (.if_icmp .ne 19, 3) := by decide +kernel
theorem dX4_isSo_27 : decode cX4_isSo 27 = .ok (.aload_n 0, 1) := by decide +kernel
theorem dX4_isSo_28 : decode cX4_isSo 28 = .ok (.iload_n 2, 1) := by decide +kernel
theorem dX4_isSo_29 : decode cX4_isSo 29 = .ok (.invokevirtual 95, 3) := by decide +kernel
theorem dX4_isSo_32 : decode cX4_isSo 32 = .ok (.ifCond .ne 7, 3) := by decide +kernel
theorem dX4_isSo_35 : decode cX4_isSo 35 = .ok (.iconst 1, 1) := by decide +kernel
theorem dX4_isSo_36 : decode cX4_isSo 36 = .ok (.goto 25, 3) := by decide +kernel
theorem dX4_isSo_39 : decode cX4_isSo 39 = .ok (.iconst 0, 1) := by decide +kernel
theorem dX4_isSo_40 : decode cX4_isSo 40 = .ok (.goto 21, 3) := by decide +kernel
theorem dX4_isSo_43 : decode cX4_isSo 43 = .ok (.iload_n 1, 1) := by decide +kernel
theorem dX4_isSo_44 : decode cX4_isSo 44 = .ok (.iconst 2, 1) := by decide +kernel
theorem dX4_isSo_45 : decode cX4_isSo 45 = .ok (.if_icmp .ne 11, 3) := by decide +kernel
theorem dX4_isSo_48 : decode cX4_isSo 48 = .ok (.aload_n 0, 1) := by decide +kernel
theorem dX4_isSo_49 : decode cX4_isSo 49 = .ok (.iload_n 2, 1) := by decide +kernel
theorem dX4_isSo_50 : decode cX4_isSo 50 = .ok (.invokevirtual 95, 3) := by decide +kernel
theorem dX4_isSo_53 : decode cX4_isSo 53 = .ok (.goto 8, 3) := by decide +kernel
theorem dX4_isSo_56 : decode cX4_isSo 56 = .ok (.aload_n 0, 1) := by decide +kernel
theorem dX4_isSo_57 : decode cX4_isSo 57 = .ok (.iload_n 2, 1) := by decide +kernel
theorem dX4_isSo_58 : decode cX4_isSo 58 = .ok (.invokevirtual 156, 3) := by decide +kernel
theorem dX4_isSo_61 : decode cX4_isSo 61 = .ok (.ireturn, 1) := by decide +kernel
theorem dX4_firstSo_0 : decode cX4_firstSo 0 = .ok (.iconst 0, 1) := by decide +kernel
theorem dX4_firstSo_1 : decode cX4_firstSo 1 = .ok (.istore 5, 2) := by decide +kernel
theorem dX4_firstSo_3 : decode cX4_firstSo 3 = .ok (.iload 5, 2) := by decide +kernel
theorem dX4_firstSo_5 : decode cX4_firstSo 5 = .ok (.iload 4, 2) := by decide +kernel
theorem dX4_firstSo_7 : decode cX4_firstSo 7 = .ok (.if_icmp .gt 23, 3) := by decide +kernel
theorem dX4_firstSo_10 : decode cX4_firstSo 10 = .ok (.aload_n 0, 1) := by decide +kernel
theorem dX4_firstSo_11 : decode cX4_firstSo 11 = .ok (.iload_n 1, 1) := by decide +kernel
theorem dX4_firstSo_12 : decode cX4_firstSo 12 = .ok (.iload_n 2, 1) := by decide +kernel
theorem dX4_firstSo_13 : decode cX4_firstSo 13 = .ok (.iload_n 3, 1) := by decide +kernel
theorem dX4_firstSo_14 : decode cX4_firstSo 14 = .ok (.invokevirtual 170, 3) := by decide +kernel
theorem dX4_firstSo_17 : decode cX4_firstSo 17 = .ok (.ifCond .ne 13, 3) := by decide +kernel
theorem dX4_firstSo_20 : decode cX4_firstSo 20 = .ok (.aload_n 0, 1) := by decide +kernel
theorem dX4_firstSo_21 : decode cX4_firstSo 21 = .ok (.invokevirtual 147, 3) := by decide +kernel
theorem dX4_firstSo_24 : decode cX4_firstSo 24 = .ok (.iinc 5 1, 3) := by decide +kernel
theorem dX4_firstSo_27 : decode cX4_firstSo 27 = .ok (.goto (-24), 3) := by decide +kernel
theorem dX4_firstSo_30 : decode cX4_firstSo 30 = .ok (.iload 5, 2) := by decide +kernel
theorem dX4_firstSo_32 : decode cX4_firstSo 32 = .ok (.ireturn, 1) := by decide +kernel
theorem dX4_foundSo_0 : decode cX4_foundSo 0 = .ok (.aload_n 0, 1) := by decide +kernel
theorem dX4_foundSo_1 : decode cX4_foundSo 1 = .ok (.invokevirtual 164, 3) := by decide +kernel
theorem dX4_foundSo_4 : decode cX4_foundSo 4 = .ok (.aload_n 0, 1) := by decide +kernel
theorem dX4_foundSo_5 : decode cX4_foundSo 5 = .ok (.aload_n 0, 1) := by decide +kernel
theorem dX4_foundSo_6 : decode cX4_foundSo 6 = .ok (.iload_n 1, 1) := by decide +kernel
theorem dX4_foundSo_7 : decode cX4_foundSo 7 = .ok (.iload_n 2, 1) := by decide +kernel
theorem dX4_foundSo_8 : decode cX4_foundSo 8 = .ok (.iload_n 3, 1) := by decide +kernel
theorem dX4_foundSo_9 : decode cX4_foundSo 9 = .ok (.bipush 100, 2) := by decide +kernel
theorem dX4_foundSo_11 : decode cX4_foundSo 11 = .ok (.invokevirtual 174, 3) := by decide +kernel
theorem dX4_foundSo_14 : decode cX4_foundSo 14 = .ok (.invokevirtual 167, 3) := by decide +kernel
theorem dX4_foundSo_17 : decode cX4_foundSo 17 = .ok (.istore 4, 2) := by decide +kernel
theorem dX4_foundSo_19 : decode cX4_foundSo 19 = .ok (.iload 4, 2) := by decide +kernel
theorem dX4_foundSo_21 : decode cX4_foundSo 21 = .ok (.bipush 100, 2) := by decide +kernel
theorem dX4_foundSo_23 : decode cX4_foundSo 23 = .ok (.if_icmp .le 12, 3) := by decide +kernel
theorem dX4_foundSo_26 : decode cX4_foundSo 26 = .ok (.aload_n 0, 1) := by decide +kernel
theorem dX4_foundSo_27 : decode cX4_foundSo 27 = .ok (.ldc 178, 2) := by decide +kernel
theorem dX4_foundSo_29 : decode cX4_foundSo 29 = .ok (.invokevirtual 66, 3) := by decide +kernel
theorem dX4_foundSo_32 : decode cX4_foundSo 32 = .ok (.goto 5, 3) := by decide +kernel
theorem dX4_foundSo_35 : decode cX4_foundSo 35 = .ok (.iload 4, 2) := by decide +kernel
theorem dX4_foundSo_37 : decode cX4_foundSo 37 = .ok (.ireturn, 1) := by decide +kernel
theorem dX4_meet_0 : decode cX4_meet 0 = .ok (.aload_n 0, 1) := by decide +kernel
theorem dX4_meet_1 : decode cX4_meet 1 = .ok (.iload_n 1, 1) := by decide +kernel
theorem dX4_meet_2 : decode cX4_meet 2 = .ok (.iload_n 2, 1) := by decide +kernel
theorem dX4_meet_3 : decode cX4_meet 3 = .ok (.invokevirtual 118, 3) := by decide +kernel
theorem dX4_meet_6 : decode cX4_meet 6 = .ok (.ifCond .eq 13, 3) := by decide +kernel
theorem dX4_meet_9 : decode cX4_meet 9 = .ok (.aload_n 0, 1) := by decide +kernel
theorem dX4_meet_10 : decode cX4_meet 10 = .ok (.iconst 0, 1) := by decide +kernel
theorem dX4_meet_11 : decode cX4_meet 11 = .ok (.iload_n 1, 1) := by decide +kernel
theorem dX4_meet_12 : decode cX4_meet 12 = .ok (.iload_n 2, 1) := by decide +kernel
theorem dX4_meet_13 : decode cX4_meet 13 = .ok (.invokevirtual 179, 3) := by decide +kernel
theorem dX4_meet_16 : decode cX4_meet 16 = .ok (.goto 9, 3) := by decide +kernel
theorem dX4_meet_19 : decode cX4_meet 19 = .ok (.aload_n 0, 1) := by decide +kernel
theorem dX4_meet_20 : decode cX4_meet 20 = .ok (.ldc 41, 2) := by decide +kernel
theorem dX4_meet_22 : decode cX4_meet 22 = .ok (.invokevirtual 66, 3) := by decide +kernel
theorem dX4_meet_25 : decode cX4_meet 25 = .ok (.ireturn, 1) := by decide +kernel
theorem dX4_when_0 : decode cX4_when 0 = .ok (.aload_n 0, 1) := by decide +kernel
theorem dX4_when_1 : decode cX4_when 1 = .ok (.iload_n 1, 1) := by decide +kernel
theorem dX4_when_2 : decode cX4_when 2 = .ok (.invokevirtual 48, 3) := by decide +kernel
theorem dX4_when_5 : decode cX4_when 5 = .ok (.ifCond .eq 13, 3) := by decide +kernel
theorem dX4_when_8 : decode cX4_when 8 = .ok (.aload_n 0, 1) := by decide +kernel
theorem dX4_when_9 : decode cX4_when 9 = .ok (.iconst 1, 1) := by decide +kernel
theorem dX4_when_10 : decode cX4_when 10 = .ok (.iload_n 1, 1) := by decide +kernel
theorem dX4_when_11 : decode cX4_when 11 = .ok (.iconst 0, 1) := by decide +kernel
theorem dX4_when_12 : decode cX4_when 12 = .ok (.invokevirtual 179, 3) := by decide +kernel
theorem dX4_when_15 : decode cX4_when 15 = .ok (.goto 9, 3) := by decide +kernel
theorem dX4_when_18 : decode cX4_when 18 = .ok (.aload_n 0, 1) := by decide +kernel
theorem dX4_when_19 : decode cX4_when 19 = .ok (.ldc 41, 2) := by decide +kernel
theorem dX4_when_21 : decode cX4_when 21 = .ok (.invokevirtual 66, 3) := by decide +kernel
theorem dX4_when_24 : decode cX4_when 24 = .ok (.ireturn, 1) := by decide +kernel
theorem dX4_till_0 : decode cX4_till 0 = .ok (.aload_n 0, 1) := by decide +kernel
theorem dX4_till_1 : decode cX4_till 1 = .ok (.iload_n 1, 1) := by decide +kernel
theorem dX4_till_2 : decode cX4_till 2 = .ok (.invokevirtual 48, 3) := by decide +kernel
theorem dX4_till_5 : decode cX4_till 5 = .ok (.ifCond .eq 13, 3) := by decide +kernel
theorem dX4_till_8 : decode cX4_till 8 = .ok (.aload_n 0, 1) := by decide +kernel
theorem dX4_till_9 : decode cX4_till 9 = .ok (.iconst 2, 1) := by decide +kernel
theorem dX4_till_10 : decode cX4_till 10 = .ok (.iload_n 1, 1) := by decide +kernel
theorem dX4_till_11 : decode cX4_till 11 = .ok (.iconst 0, 1) := by decide +kernel
theorem dX4_till_12 : decode cX4_till 12 = .ok (.invokevirtual 179, 3) := by decide +kernel
theorem dX4_till_15 : decode cX4_till 15 = .ok (.goto 9, 3) := by decide +kernel
theorem dX4_till_18 : decode cX4_till 18 = .ok (.aload_n 0, 1) := by decide +kernel
theorem dX4_till_19 : decode cX4_till 19 = .ok (.ldc 41, 2) := by decide +kernel
theorem dX4_till_21 : decode cX4_till 21 = .ok (.invokevirtual 66, 3) := by decide +kernel
theorem dX4_till_24 : decode cX4_till 24 = .ok (.ireturn, 1) := by decide +kernel
theorem dX4_glad_0 : decode cX4_glad 0 = .ok (.aload_n 0, 1) := by decide +kernel
theorem dX4_glad_1 : decode cX4_glad 1 = .ok (.iload_n 1, 1) := by decide +kernel
theorem dX4_glad_2 : decode cX4_glad 2 = .ok (.invokevirtual 48, 3) := by decide +kernel
theorem dX4_glad_5 : decode cX4_glad 5 = .ok (.ifCond .eq 13, 3) := by decide +kernel
theorem dX4_glad_8 : decode cX4_glad 8 = .ok (.aload_n 0, 1) := by decide +kernel
theorem dX4_glad_9 : decode cX4_glad 9 = .ok (.iconst 3, 1) := by decide +kernel
theorem dX4_glad_10 : decode cX4_glad 10 = .ok (.iload_n 1, 1) := by decide +kernel
theorem dX4_glad_11 : decode cX4_glad 11 = .ok (.iconst 0, 1) := by decide +kernel
theorem dX4_glad_12 : decode cX4_glad 12 = .ok (.invokevirtual 179, 3) := by decide +kernel
theorem dX4_glad_15 : decode cX4_glad 15 = .ok (.goto 9, 3) := by decide +kernel
theorem dX4_glad_18 : decode cX4_glad 18 = .ok (.aload_n 0, 1) := by decide +kernel
theorem dX4_glad_19 : decode cX4_glad 19 = .ok (.ldc 41, 2) := by decide +kernel
theorem dX4_glad_21 : decode cX4_glad 21 = .ok (.invokevirtual 66, 3) := by decide +kernel
theorem dX4_glad_24 : decode cX4_glad 24 = .ok (.ireturn, 1) := by decide +kernel
theorem dX4_begins_0 : decode cX4_begins 0 = .ok (.aload_n 0, 1) := by decide +kernel
theorem dX4_begins_1 : decode cX4_begins 1 = .ok (.iconst (-1), 1) := by decide +kernel
theorem dX4_begins_2 : decode cX4_begins 2 = .ok (.putfield 183, 3) := by decide +kernel
theorem dX4_begins_5 : decode cX4_begins 5 = .ok (.aload_n 0, 1) := by decide +kernel
theorem dX4_begins_6 : decode cX4_begins 6 = .ok (.iload_n 1, 1) := by decide +kernel
theorem dX4_begins_7 : decode cX4_begins 7 = .ok (.iconst 1, 1) := by decide +kernel
theorem dX4_begins_8 : decode cX4_begins 8 = .ok (.iadd, 1) := by decide +kernel
theorem dX4_begins_9 : decode cX4_begins 9 = .ok (.putfield 187, 3) := by decide +kernel
theorem dX4_begins_12 : decode cX4_begins 12 = .ok (.return_, 1) := by decide +kernel
theorem dX4_tries_0 : decode cX4_tries 0 = .ok (.aload_n 0, 1) := by decide +kernel
theorem dX4_tries_1 : decode cX4_tries 1 = .ok (.iload_n 2, 1) := by decide +kernel
theorem dX4_tries_2 : decode cX4_tries 2 = .ok (.aload_n 0, 1) := by decide +kernel
theorem dX4_tries_3 : decode cX4_tries 3 = .ok (.getfield 187, 3) := by decide +kernel
theorem dX4_tries_6 : decode cX4_tries 6 = .ok (.if_icmp .ge 7, 3) := by decide +kernel
theorem dX4_tries_9 : decode cX4_tries 9 = .ok (.iload_n 1, 1) := by decide +kernel
theorem dX4_tries_10 : decode cX4_tries 10 = .ok (.goto 7, 3) := by decide +kernel
theorem dX4_tries_13 : decode cX4_tries 13 = .ok (.aload_n 0, 1) := by decide +kernel
theorem dX4_tries_14 : decode cX4_tries 14 = .ok (.getfield 183, 3) := by decide +kernel
theorem dX4_tries_17 : decode cX4_tries 17 = .ok (.putfield 183, 3) := by decide +kernel
theorem dX4_tries_20 : decode cX4_tries 20 = .ok (.aload_n 0, 1) := by decide +kernel
theorem dX4_tries_21 : decode cX4_tries 21 = .ok (.iload_n 2, 1) := by decide +kernel
theorem dX4_tries_22 : decode cX4_tries 22 = .ok (.aload_n 0, 1) := by decide +kernel
theorem dX4_tries_23 : decode cX4_tries 23 = .ok (.getfield 187, 3) := by decide +kernel
theorem dX4_tries_26 : decode cX4_tries 26 = .ok (.if_icmp .ge 7, 3) := by decide +kernel
theorem dX4_tries_29 : decode cX4_tries 29 = .ok (.iload_n 2, 1) := by decide +kernel
theorem dX4_tries_30 : decode cX4_tries 30 = .ok (.goto 7, 3) := by decide +kernel
theorem dX4_tries_33 : decode cX4_tries 33 = .ok (.aload_n 0, 1) := by decide +kernel
theorem dX4_tries_34 : decode cX4_tries 34 = .ok (.getfield 187, 3) := by decide +kernel
theorem dX4_tries_37 : decode cX4_tries 37 = .ok (.putfield 187, 3) := by decide +kernel
theorem dX4_tries_40 : decode cX4_tries 40 = .ok (.return_, 1) := by decide +kernel
theorem dX4_bestOrNone_0 : decode cX4_bestOrNone 0 = .ok (.aload_n 0, 1) := by decide +kernel
theorem dX4_bestOrNone_1 : decode cX4_bestOrNone 1 = .ok (.getfield 183, 3) := by decide +kernel
theorem dX4_bestOrNone_4 : decode cX4_bestOrNone 4 = .ok (.ifCond .ge 12, 3) := by decide +kernel
theorem dX4_bestOrNone_7 : decode cX4_bestOrNone 7 = .ok (.aload_n 0, 1) := by decide +kernel
theorem dX4_bestOrNone_8 : decode cX4_bestOrNone 8 = .ok (.ldc 178, 2) := by decide +kernel
theorem dX4_bestOrNone_10 : decode cX4_bestOrNone 10 = .ok (.invokevirtual 66, 3) := by decide +kernel
theorem dX4_bestOrNone_13 : decode cX4_bestOrNone 13 = .ok (.goto 7, 3) := by decide +kernel
theorem dX4_bestOrNone_16 : decode cX4_bestOrNone 16 = .ok (.aload_n 0, 1) := by decide +kernel
theorem dX4_bestOrNone_17 : decode cX4_bestOrNone 17 = .ok (.getfield 183, 3) := by decide +kernel
theorem dX4_bestOrNone_20 : decode cX4_bestOrNone 20 = .ok (.ireturn, 1) := by decide +kernel
theorem dX4_heading_0 : decode cX4_heading 0 = .ok (.aload_n 0, 1) := by decide +kernel
theorem dX4_heading_1 : decode cX4_heading 1 = .ok (.iload_n 1, 1) := by decide +kernel
theorem dX4_heading_2 : decode cX4_heading 2 = .ok (.iload_n 2, 1) := by decide +kernel
theorem dX4_heading_3 : decode cX4_heading 3 = .ok (.invokevirtual 118, 3) := by decide +kernel
theorem dX4_heading_6 : decode cX4_heading 6 = .ok (.ifCond .ne 10, 3) := by decide +kernel
theorem dX4_heading_9 : decode cX4_heading 9 = .ok (.aload_n 0, 1) := by decide +kernel
theorem dX4_heading_10 : decode cX4_heading 10 = .ok (.ldc 41, 2) := by decide +kernel
theorem dX4_heading_12 : decode cX4_heading 12 = .ok (.invokevirtual 66, 3) := by decide +kernel
theorem dX4_heading_15 : decode cX4_heading 15 = .ok (.ireturn, 1) := by decide +kernel
theorem dX4_heading_16 : decode cX4_heading 16 = .ok (.aload_n 0, 1) := by decide +kernel
theorem dX4_heading_17 : decode cX4_heading 17 = .ok (.bipush 100, 2) := by decide +kernel
theorem dX4_heading_19 : decode cX4_heading 19 = .ok (.invokevirtual 190, 3) := by decide +kernel
theorem dX4_heading_22 : decode cX4_heading 22 = .ok (.aload_n 0, 1) := by decide +kernel
theorem dX4_heading_23 : decode cX4_heading 23 = .ok (.invokevirtual 164, 3) := by decide +kernel
theorem dX4_heading_26 : decode cX4_heading 26 = .ok (.iconst 0, 1) := by decide +kernel
theorem dX4_heading_27 : decode cX4_heading 27 = .ok (.istore_n 3, 1) := by decide +kernel
theorem dX4_heading_28 : decode cX4_heading 28 = .ok (.iload_n 3, 1) := by decide +kernel
theorem dX4_heading_29 : decode cX4_heading 29 = .ok (.iconst 4, 1) := by decide +kernel
theorem dX4_heading_30 : decode cX4_heading 30 = .ok (.if_icmp .ge 38, 3) := by decide +kernel
theorem dX4_heading_33 : decode cX4_heading 33 = .ok (.aload_n 0, 1) := by decide +kernel
theorem dX4_heading_34 : decode cX4_heading 34 = .ok (.getfield 7, 3) := by decide +kernel
theorem dX4_heading_37 : decode cX4_heading 37 = .ok (.iload_n 1, 1) := by decide +kernel
theorem dX4_heading_38 : decode cX4_heading 38 = .ok (.iconst 3, 1) := by decide +kernel
theorem dX4_heading_39 : decode cX4_heading 39 = .ok (.invokestatic 54, 3) := by decide +kernel
theorem dX4_heading_42 : decode cX4_heading 42 = .ok (.iload_n 3, 1) := by decide +kernel
theorem dX4_heading_43 : decode cX4_heading 43 = .ok (.iastore, 1) := by decide +kernel
theorem dX4_heading_44 : decode cX4_heading 44 = .ok (.aload_n 0, 1) := by decide +kernel
theorem dX4_heading_45 : decode cX4_heading 45 = .ok (.iload_n 3, 1) := by decide +kernel
theorem dX4_heading_46 : decode cX4_heading 46 = .ok (.aload_n 0, 1) := by decide +kernel
theorem dX4_heading_47 : decode cX4_heading 47 = .ok (.aload_n 0, 1) := by decide +kernel
theorem dX4_heading_48 : decode cX4_heading 48 = .ok (.iconst 0, 1) := by decide +kernel
theorem dX4_heading_49 : decode cX4_heading 49 = .ok (.iload_n 1, 1) := by decide +kernel
theorem dX4_heading_50 : decode cX4_heading 50 = .ok (.iload_n 2, 1) := by decide +kernel
theorem dX4_heading_51 : decode cX4_heading 51 = .ok (.bipush 100, 2) := by decide +kernel
theorem dX4_heading_53 : decode cX4_heading 53 = .ok (.invokevirtual 174, 3) := by decide +kernel
theorem dX4_heading_56 : decode cX4_heading 56 = .ok (.invokevirtual 167, 3) := by decide +kernel
theorem dX4_heading_59 : decode cX4_heading 59 = .ok (.invokevirtual 193, 3) := by decide +kernel
theorem dX4_heading_62 : decode cX4_heading 62 = .ok (.iinc 3 1, 3) := by decide +kernel
theorem dX4_heading_65 : decode cX4_heading 65 = .ok (.goto (-37), 3) := by decide +kernel
theorem dX4_heading_68 : decode cX4_heading 68 = .ok (.aload_n 0, 1) := by decide +kernel
theorem dX4_heading_69 : decode cX4_heading 69 = .ok (.invokevirtual 196, 3) := by decide +kernel
theorem dX4_heading_72 : decode cX4_heading 72 = .ok (.ireturn, 1) := by decide +kernel
theorem dX4_begin_0 : decode cX4_begin 0 = .ok (.aload_n 0, 1) := by decide +kernel
theorem dX4_begin_1 : decode cX4_begin 1 = .ok (.iload_n 1, 1) := by decide +kernel
theorem dX4_begin_2 : decode cX4_begin 2 = .ok (.iload_n 2, 1) := by decide +kernel
theorem dX4_begin_3 : decode cX4_begin 3 = .ok (.invokevirtual 118, 3) := by decide +kernel
theorem dX4_begin_6 : decode cX4_begin 6 = .ok (.ifCond .ne 10, 3) := by decide +kernel
theorem dX4_begin_9 : decode cX4_begin 9 = .ok (.aload_n 0, 1) := by decide +kernel
theorem dX4_begin_10 : decode cX4_begin 10 = .ok (.ldc 41, 2) := by decide +kernel
theorem dX4_begin_12 : decode cX4_begin 12 = .ok (.invokevirtual 66, 3) := by decide +kernel
theorem dX4_begin_15 : decode cX4_begin 15 = .ok (.ireturn, 1) := by decide +kernel
theorem dX4_begin_16 : decode cX4_begin 16 = .ok (.aload_n 0, 1) := by decide +kernel
theorem dX4_begin_17 : decode cX4_begin 17 = .ok (.bipush 30, 2) := by decide +kernel
theorem dX4_begin_19 : decode cX4_begin 19 = .ok (.invokevirtual 190, 3) := by decide +kernel
theorem dX4_begin_22 : decode cX4_begin 22 = .ok (.aload_n 0, 1) := by decide +kernel
theorem dX4_begin_23 : decode cX4_begin 23 = .ok (.invokevirtual 164, 3) := by decide +kernel
theorem dX4_begin_26 : decode cX4_begin 26 = .ok (.iconst 0, 1) := by decide +kernel
theorem dX4_begin_27 : decode cX4_begin 27 = .ok (.istore_n 3, 1) := by decide +kernel
theorem dX4_begin_28 : decode cX4_begin 28 = .ok (.iload_n 3, 1) := by decide +kernel
theorem dX4_begin_29 : decode cX4_begin 29 = .ok (.bipush 36, 2) := by decide +kernel
theorem dX4_begin_31 : decode cX4_begin 31 = .ok (.if_icmp .ge 57, 3) := by decide +kernel
theorem dX4_begin_34 : decode cX4_begin 34 = .ok (.aload_n 0, 1) := by decide +kernel
theorem dX4_begin_35 : decode cX4_begin 35 = .ok (.iload_n 1, 1) := by decide +kernel
theorem dX4_begin_36 : decode cX4_begin 36 = .ok (.invokevirtual 95, 3) := by decide +kernel
theorem dX4_begin_39 : decode cX4_begin 39 = .ok (.ifCond .eq 7, 3) := by decide +kernel
theorem dX4_begin_42 : decode cX4_begin 42 = .ok (.iconst (-1), 1) := by decide +kernel
theorem dX4_begin_43 : decode cX4_begin 43 = .ok (.goto 8, 3) := by decide +kernel
theorem dX4_begin_46 : decode cX4_begin 46 = .ok (.aload_n 0, 1) := by decide +kernel
theorem dX4_begin_47 : decode cX4_begin 47 = .ok (.iload_n 1, 1) := by decide +kernel
theorem dX4_begin_48 : decode cX4_begin 48 = .ok (.invokevirtual 115, 3) := by decide +kernel
theorem dX4_begin_51 : decode cX4_begin 51 = .ok (.istore 4, 2) := by decide +kernel
theorem dX4_begin_53 : decode cX4_begin 53 = .ok (.aload_n 0, 1) := by decide +kernel
theorem dX4_begin_54 : decode cX4_begin 54 = .ok (.getfield 7, 3) := by decide +kernel
theorem dX4_begin_57 : decode cX4_begin 57 = .ok (.iload_n 1, 1) := by decide +kernel
theorem dX4_begin_58 : decode cX4_begin 58 = .ok (.iconst 1, 1) := by decide +kernel
theorem dX4_begin_59 : decode cX4_begin 59 = .ok (.invokestatic 54, 3) := by decide +kernel
theorem dX4_begin_62 : decode cX4_begin 62 = .ok (.iload_n 3, 1) := by decide +kernel
theorem dX4_begin_63 : decode cX4_begin 63 = .ok (.iastore, 1) := by decide +kernel
theorem dX4_begin_64 : decode cX4_begin 64 = .ok (.aload_n 0, 1) := by decide +kernel
theorem dX4_begin_65 : decode cX4_begin 65 = .ok (.iload_n 3, 1) := by decide +kernel
theorem dX4_begin_66 : decode cX4_begin 66 = .ok (.aload_n 0, 1) := by decide +kernel
theorem dX4_begin_67 : decode cX4_begin 67 = .ok (.aload_n 0, 1) := by decide +kernel
theorem dX4_begin_68 : decode cX4_begin 68 = .ok (.iconst 0, 1) := by decide +kernel
theorem dX4_begin_69 : decode cX4_begin 69 = .ok (.iload_n 1, 1) := by decide +kernel
theorem dX4_begin_70 : decode cX4_begin 70 = .ok (.iload_n 2, 1) := by decide +kernel
theorem dX4_begin_71 : decode cX4_begin 71 = .ok (.bipush 30, 2) := by decide +kernel
theorem dX4_begin_73 : decode cX4_begin 73 = .ok (.invokevirtual 174, 3) := by decide +kernel
theorem dX4_begin_76 : decode cX4_begin 76 = .ok (.invokevirtual 167, 3) := by decide +kernel
theorem dX4_begin_79 : decode cX4_begin 79 = .ok (.invokevirtual 193, 3) := by decide +kernel
theorem dX4_begin_82 : decode cX4_begin 82 = .ok (.iinc 3 1, 3) := by decide +kernel
theorem dX4_begin_85 : decode cX4_begin 85 = .ok (.goto (-57), 3) := by decide +kernel
theorem dX4_begin_88 : decode cX4_begin 88 = .ok (.aload_n 0, 1) := by decide +kernel
theorem dX4_begin_89 : decode cX4_begin 89 = .ok (.invokevirtual 196, 3) := by decide +kernel
theorem dX4_begin_92 : decode cX4_begin 92 = .ok (.ireturn, 1) := by decide +kernel
theorem dX4_kind_0 : decode cX4_kind 0 = .ok (.aload_n 0, 1) := by decide +kernel
theorem dX4_kind_1 : decode cX4_kind 1 = .ok (.iload_n 1, 1) := by decide +kernel
theorem dX4_kind_2 : decode cX4_kind 2 = .ok (.invokevirtual 48, 3) := by decide +kernel
theorem dX4_kind_5 : decode cX4_kind 5 = .ok (.ifCond .ne 10, 3) := by decide +kernel
theorem dX4_kind_8 : decode cX4_kind 8 = .ok (.aload_n 0, 1) := by decide +kernel
theorem dX4_kind_9 : decode cX4_kind 9 = .ok (.ldc 41, 2) := by decide +kernel
theorem dX4_kind_11 : decode cX4_kind 11 = .ok (.invokevirtual 66, 3) := by decide +kernel
theorem dX4_kind_14 : decode cX4_kind 14 = .ok (.ireturn, 1) := by decide +kernel
theorem dX4_kind_15 : decode cX4_kind 15 = .ok (.aload_n 0, 1) := by decide +kernel
theorem dX4_kind_16 : decode cX4_kind 16 = .ok (.bipush 100, 2) := by decide +kernel
theorem dX4_kind_18 : decode cX4_kind 18 = .ok (.invokevirtual 190, 3) := by decide +kernel
theorem dX4_kind_21 : decode cX4_kind 21 = .ok (.aload_n 0, 1) := by decide +kernel
theorem dX4_kind_22 : decode cX4_kind 22 = .ok (.invokevirtual 164, 3) := by decide +kernel
theorem dX4_kind_25 : decode cX4_kind 25 = .ok (.iconst 0, 1) := by decide +kernel
theorem dX4_kind_26 : decode cX4_kind 26 = .ok (.istore_n 2, 1) := by decide +kernel
theorem dX4_kind_27 : decode cX4_kind 27 = .ok (.iload_n 2, 1) := by decide +kernel
theorem dX4_kind_28 : decode cX4_kind 28 = .ok (.iconst 5, 1) := by decide +kernel
theorem dX4_kind_29 : decode cX4_kind 29 = .ok (.if_icmp .gt 38, 3) := by decide +kernel
theorem dX4_kind_32 : decode cX4_kind 32 = .ok (.aload_n 0, 1) := by decide +kernel
theorem dX4_kind_33 : decode cX4_kind 33 = .ok (.getfield 7, 3) := by decide +kernel
theorem dX4_kind_36 : decode cX4_kind 36 = .ok (.iload_n 1, 1) := by decide +kernel
theorem dX4_kind_37 : decode cX4_kind 37 = .ok (.iconst 0, 1) := by decide +kernel
theorem dX4_kind_38 : decode cX4_kind 38 = .ok (.invokestatic 54, 3) := by decide +kernel
theorem dX4_kind_41 : decode cX4_kind 41 = .ok (.iload_n 2, 1) := by decide +kernel
theorem dX4_kind_42 : decode cX4_kind 42 = .ok (.iastore, 1) := by decide +kernel
theorem dX4_kind_43 : decode cX4_kind 43 = .ok (.aload_n 0, 1) := by decide +kernel
theorem dX4_kind_44 : decode cX4_kind 44 = .ok (.iload_n 2, 1) := by decide +kernel
theorem dX4_kind_45 : decode cX4_kind 45 = .ok (.aload_n 0, 1) := by decide +kernel
theorem dX4_kind_46 : decode cX4_kind 46 = .ok (.aload_n 0, 1) := by decide +kernel
theorem dX4_kind_47 : decode cX4_kind 47 = .ok (.iconst 1, 1) := by decide +kernel
theorem dX4_kind_48 : decode cX4_kind 48 = .ok (.iload_n 1, 1) := by decide +kernel
theorem dX4_kind_49 : decode cX4_kind 49 = .ok (.iconst 0, 1) := by decide +kernel
theorem dX4_kind_50 : decode cX4_kind 50 = .ok (.bipush 100, 2) := by decide +kernel
theorem dX4_kind_52 : decode cX4_kind 52 = .ok (.invokevirtual 174, 3) := by decide +kernel
theorem dX4_kind_55 : decode cX4_kind 55 = .ok (.invokevirtual 167, 3) := by decide +kernel
theorem dX4_kind_58 : decode cX4_kind 58 = .ok (.invokevirtual 193, 3) := by decide +kernel
theorem dX4_kind_61 : decode cX4_kind 61 = .ok (.iinc 2 1, 3) := by decide +kernel
theorem dX4_kind_64 : decode cX4_kind 64 = .ok (.goto (-37), 3) := by decide +kernel
theorem dX4_kind_67 : decode cX4_kind 67 = .ok (.aload_n 0, 1) := by decide +kernel
theorem dX4_kind_68 : decode cX4_kind 68 = .ok (.invokevirtual 196, 3) := by decide +kernel
theorem dX4_kind_71 : decode cX4_kind 71 = .ok (.ireturn, 1) := by decide +kernel
theorem dX4_hour_0 : decode cX4_hour 0 = .ok (.aload_n 0, 1) := by decide +kernel
theorem dX4_hour_1 : decode cX4_hour 1 = .ok (.iload_n 1, 1) := by decide +kernel
theorem dX4_hour_2 : decode cX4_hour 2 = .ok (.iload_n 2, 1) := by decide +kernel
theorem dX4_hour_3 : decode cX4_hour 3 = .ok (.invokevirtual 118, 3) := by decide +kernel
theorem dX4_hour_6 : decode cX4_hour 6 = .ok (.ifCond .ne 10, 3) := by decide +kernel
theorem dX4_hour_9 : decode cX4_hour 9 = .ok (.aload_n 0, 1) := by decide +kernel
theorem dX4_hour_10 : decode cX4_hour 10 = .ok (.ldc 41, 2) := by decide +kernel
theorem dX4_hour_12 : decode cX4_hour 12 = .ok (.invokevirtual 66, 3) := by decide +kernel
theorem dX4_hour_15 : decode cX4_hour 15 = .ok (.ireturn, 1) := by decide +kernel
theorem dX4_hour_16 : decode cX4_hour 16 = .ok (.aload_n 0, 1) := by decide +kernel
theorem dX4_hour_17 : decode cX4_hour 17 = .ok (.bipush 60, 2) := by decide +kernel
theorem dX4_hour_19 : decode cX4_hour 19 = .ok (.invokevirtual 190, 3) := by decide +kernel
theorem dX4_hour_22 : decode cX4_hour 22 = .ok (.aload_n 0, 1) := by decide +kernel
theorem dX4_hour_23 : decode cX4_hour 23 = .ok (.invokevirtual 164, 3) := by decide +kernel
theorem dX4_hour_26 : decode cX4_hour 26 = .ok (.iconst 0, 1) := by decide +kernel
theorem dX4_hour_27 : decode cX4_hour 27 = .ok (.istore_n 3, 1) := by decide +kernel
theorem dX4_hour_28 : decode cX4_hour 28 = .ok (.iload_n 3, 1) := by decide +kernel
theorem dX4_hour_29 : decode cX4_hour 29 = .ok (.bipush 24, 2) := by decide +kernel
theorem dX4_hour_31 : decode cX4_hour 31 = .ok (.if_icmp .ge 36, 3) := by decide +kernel
theorem dX4_hour_34 : decode cX4_hour 34 = .ok (.aload_n 0, 1) := by decide +kernel
theorem dX4_hour_35 : decode cX4_hour 35 = .ok (.getfield 7, 3) := by decide +kernel
theorem dX4_hour_38 : decode cX4_hour 38 = .ok (.iconst 2, 1) := by decide +kernel
theorem dX4_hour_39 : decode cX4_hour 39 = .ok (.iconst 1, 1) := by decide +kernel
theorem dX4_hour_40 : decode cX4_hour 40 = .ok (.iload_n 3, 1) := by decide +kernel
theorem dX4_hour_41 : decode cX4_hour 41 = .ok (.ishl, 1) := by decide +kernel
theorem dX4_hour_42 : decode cX4_hour 42 = .ok (.iastore, 1) := by decide +kernel
theorem dX4_hour_43 : decode cX4_hour 43 = .ok (.aload_n 0, 1) := by decide +kernel
theorem dX4_hour_44 : decode cX4_hour 44 = .ok (.iload_n 3, 1) := by decide +kernel
theorem dX4_hour_45 : decode cX4_hour 45 = .ok (.aload_n 0, 1) := by decide +kernel
theorem dX4_hour_46 : decode cX4_hour 46 = .ok (.aload_n 0, 1) := by decide +kernel
theorem dX4_hour_47 : decode cX4_hour 47 = .ok (.iconst 0, 1) := by decide +kernel
theorem dX4_hour_48 : decode cX4_hour 48 = .ok (.iload_n 1, 1) := by decide +kernel
theorem dX4_hour_49 : decode cX4_hour 49 = .ok (.iload_n 2, 1) := by decide +kernel
theorem dX4_hour_50 : decode cX4_hour 50 = .ok (.bipush 60, 2) := by decide +kernel
theorem dX4_hour_52 : decode cX4_hour 52 = .ok (.invokevirtual 174, 3) := by decide +kernel
theorem dX4_hour_55 : decode cX4_hour 55 = .ok (.invokevirtual 167, 3) := by decide +kernel
theorem dX4_hour_58 : decode cX4_hour 58 = .ok (.invokevirtual 193, 3) := by decide +kernel
theorem dX4_hour_61 : decode cX4_hour 61 = .ok (.iinc 3 1, 3) := by decide +kernel
theorem dX4_hour_64 : decode cX4_hour 64 = .ok (.goto (-36), 3) := by decide +kernel
theorem dX4_hour_67 : decode cX4_hour 67 = .ok (.aload_n 0, 1) := by decide +kernel
theorem dX4_hour_68 : decode cX4_hour 68 = .ok (.invokevirtual 196, 3) := by decide +kernel
theorem dX4_hour_71 : decode cX4_hour 71 = .ok (.ireturn, 1) := by decide +kernel
theorem dX4_hope_0 : decode cX4_hope 0 = .ok (.aload_n 0, 1) := by decide +kernel
theorem dX4_hope_1 : decode cX4_hope 1 = .ok (.iload_n 1, 1) := by decide +kernel
theorem dX4_hope_2 : decode cX4_hope 2 = .ok (.invokevirtual 48, 3) := by decide +kernel
theorem dX4_hope_5 : decode cX4_hope 5 = .ok (.ifCond .eq 15, 3) := by decide +kernel
theorem dX4_hope_8 : decode cX4_hope 8 = .ok (.iload_n 2, 1) := by decide +kernel
theorem dX4_hope_9 : decode cX4_hope 9 = .ok (.i2l, 1) := by decide +kernel
theorem dX4_hope_10 : decode cX4_hope 10 = .ok (.lconst 0, 1) := by decide +kernel
theorem dX4_hope_11 : decode cX4_hope 11 = .ok (.ldc2_w 150, 3) := by decide +kernel
theorem dX4_hope_14 : decode cX4_hope 14 = .ok (.invokestatic 44, 3) := by decide +kernel
theorem dX4_hope_17 : decode cX4_hope 17 = .ok (.ifCond .ne 10, 3) := by decide +kernel
theorem dX4_hope_20 : decode cX4_hope 20 = .ok (.aload_n 0, 1) := by decide +kernel
theorem dX4_hope_21 : decode cX4_hope 21 = .ok (.ldc 41, 2) := by decide +kernel
theorem dX4_hope_23 : decode cX4_hope 23 = .ok (.invokevirtual 66, 3) := by decide +kernel
theorem dX4_hope_26 : decode cX4_hope 26 = .ok (.ireturn, 1) := by decide +kernel
theorem dX4_hope_27 : decode cX4_hope 27 = .ok (.iconst (-1), 1) := by decide +kernel
theorem dX4_hope_28 : decode cX4_hope 28 = .ok (.istore_n 3, 1) := by decide +kernel
theorem dX4_hope_29 : decode cX4_hope 29 = .ok (.iconst 0, 1) := by decide +kernel
theorem dX4_hope_30 : decode cX4_hope 30 = .ok (.istore 4, 2) := by decide +kernel
theorem dX4_hope_32 : decode cX4_hope 32 = .ok (.aload_n 0, 1) := by decide +kernel
theorem dX4_hope_33 : decode cX4_hope 33 = .ok (.invokevirtual 164, 3) := by decide +kernel
theorem dX4_hope_36 : decode cX4_hope 36 = .ok (.iconst 0, 1) := by decide +kernel
theorem dX4_hope_37 : decode cX4_hope 37 = .ok (.istore 5, 2) := by decide +kernel
theorem dX4_hope_39 : decode cX4_hope 39 = .ok (.iload 5, 2) := by decide +kernel
theorem dX4_hope_41 : decode cX4_hope 41 = .ok (.bipush 16, 2) := by decide +kernel
theorem dX4_hope_43 : decode cX4_hope 43 = .ok (.if_icmp .ge 67, 3) := by decide +kernel
theorem dX4_hope_46 : decode cX4_hope 46 = .ok (.aload_n 0, 1) := by decide +kernel
theorem dX4_hope_47 : decode cX4_hope 47 = .ok (.getfield 7, 3) := by decide +kernel
theorem dX4_hope_50 : decode cX4_hope 50 = .ok (.iload_n 1, 1) := by decide +kernel
theorem dX4_hope_51 : decode cX4_hope 51 = .ok (.iconst 4, 1) := by decide +kernel
theorem dX4_hope_52 : decode cX4_hope 52 = .ok (.invokestatic 54, 3) := by decide +kernel
theorem dX4_hope_55 : decode cX4_hope 55 = .ok (.iload 5, 2) := by decide +kernel
theorem dX4_hope_57 : decode cX4_hope 57 = .ok (.iastore, 1) := by decide +kernel
theorem dX4_hope_58 : decode cX4_hope 58 = .ok (.aload_n 0, 1) := by decide +kernel
theorem dX4_hope_59 : decode cX4_hope 59 = .ok (.iload_n 2, 1) := by decide +kernel
theorem dX4_hope_60 : decode cX4_hope 60 = .ok (.invokevirtual 153, 3) := by decide +kernel
theorem dX4_hope_63 : decode cX4_hope 63 = .ok (.aload_n 0, 1) := by decide +kernel
theorem dX4_hope_64 : decode cX4_hope 64 = .ok (.aload_n 0, 1) := by decide +kernel
theorem dX4_hope_65 : decode cX4_hope 65 = .ok (.invokevirtual 159, 3) := by decide +kernel
theorem dX4_hope_68 : decode cX4_hope 68 = .ok (.invokestatic 128, 3) := by decide +kernel
theorem dX4_hope_71 : decode cX4_hope 71 = .ok (.invokevirtual 167, 3) := by decide +kernel
theorem dX4_hope_74 : decode cX4_hope 74 = .ok (.istore 6, 2) := by decide +kernel
theorem dX4_hope_76 : decode cX4_hope 76 = .ok (.iload 6, 2) := by decide +kernel
theorem dX4_hope_78 : decode cX4_hope 78 = .ok (.iload_n 3, 1) := by decide +kernel
theorem dX4_hope_79 : decode cX4_hope 79 = .ok (.if_icmp .le 8, 3) := by decide +kernel
theorem dX4_hope_82 : decode cX4_hope 82 = .ok (.iload 5, 2) := by decide +kernel
theorem dX4_hope_84 : decode cX4_hope 84 = .ok (.goto 5, 3) := by decide +kernel
theorem dX4_hope_87 : decode cX4_hope 87 = .ok (.iload 4, 2) := by decide +kernel
theorem dX4_hope_89 : decode cX4_hope 89 = .ok (.istore 4, 2) := by decide +kernel
theorem dX4_hope_91 : decode cX4_hope 91 = .ok (.iload 6, 2) := by decide +kernel
theorem dX4_hope_93 : decode cX4_hope 93 = .ok (.iload_n 3, 1) := by decide +kernel
theorem dX4_hope_94 : decode cX4_hope 94 = .ok (.if_icmp .le 8, 3) := by decide +kernel
theorem dX4_hope_97 : decode cX4_hope 97 = .ok (.iload 6, 2) := by decide +kernel
theorem dX4_hope_99 : decode cX4_hope 99 = .ok (.goto 4, 3) := by decide +kernel
theorem dX4_hope_102 : decode cX4_hope 102 = .ok (.iload_n 3, 1) := by decide +kernel
theorem dX4_hope_103 : decode cX4_hope 103 = .ok (.istore_n 3, 1) := by decide +kernel
theorem dX4_hope_104 : decode cX4_hope 104 = .ok (.iinc 5 1, 3) := by decide +kernel
theorem dX4_hope_107 : decode cX4_hope 107 = .ok (.goto (-68), 3) := by decide +kernel
theorem dX4_hope_110 : decode cX4_hope 110 = .ok (.iload 4, 2) := by decide +kernel
theorem dX4_hope_112 : decode cX4_hope 112 = .ok (.ireturn, 1) := by decide +kernel
theorem dX4_more_0 : decode cX4_more 0 = .ok (.iload_n 1, 1) := by decide +kernel
theorem dX4_more_1 : decode cX4_more 1 = .ok (.i2l, 1) := by decide +kernel
theorem dX4_more_2 : decode cX4_more 2 = .ok (.lconst 0, 1) := by decide +kernel
theorem dX4_more_3 : decode cX4_more 3 = .ok (.ldc2_w 150, 3) := by decide +kernel
theorem dX4_more_6 : decode cX4_more 6 = .ok (.invokestatic 44, 3) := by decide +kernel
theorem dX4_more_9 : decode cX4_more 9 = .ok (.ifCond .ne 10, 3) := by decide +kernel
theorem dX4_more_12 : decode cX4_more 12 = .ok (.aload_n 0, 1) := by decide +kernel
theorem dX4_more_13 : decode cX4_more 13 = .ok (.ldc 41, 2) := by decide +kernel
theorem dX4_more_15 : decode cX4_more 15 = .ok (.invokevirtual 66, 3) := by decide +kernel
theorem dX4_more_18 : decode cX4_more 18 = .ok (.ireturn, 1) := by decide +kernel
theorem dX4_more_19 : decode cX4_more 19 = .ok (.iconst (-1), 1) := by decide +kernel
theorem dX4_more_20 : decode cX4_more 20 = .ok (.istore_n 2, 1) := by decide +kernel
theorem dX4_more_21 : decode cX4_more 21 = .ok (.iconst 0, 1) := by decide +kernel
theorem dX4_more_22 : decode cX4_more 22 = .ok (.istore_n 3, 1) := by decide +kernel
theorem dX4_more_23 : decode cX4_more 23 = .ok (.aload_n 0, 1) := by decide +kernel
theorem dX4_more_24 : decode cX4_more 24 = .ok (.invokevirtual 164, 3) := by decide +kernel
theorem dX4_more_27 : decode cX4_more 27 = .ok (.iconst 0, 1) := by decide +kernel
theorem dX4_more_28 : decode cX4_more 28 = .ok (.istore 4, 2) := by decide +kernel
theorem dX4_more_30 : decode cX4_more 30 = .ok (.iload 4, 2) := by decide +kernel
theorem dX4_more_32 : decode cX4_more 32 = .ok (.bipush 24, 2) := by decide +kernel
theorem dX4_more_34 : decode cX4_more 34 = .ok (.if_icmp .ge 66, 3) := by decide +kernel
theorem dX4_more_37 : decode cX4_more 37 = .ok (.aload_n 0, 1) := by decide +kernel
theorem dX4_more_38 : decode cX4_more 38 = .ok (.getfield 7, 3) := by decide +kernel
theorem dX4_more_41 : decode cX4_more 41 = .ok (.iconst 2, 1) := by decide +kernel
theorem dX4_more_42 : decode cX4_more 42 = .ok (.dup2, 1) := by decide +kernel
theorem dX4_more_43 : decode cX4_more 43 = .ok (.iaload, 1) := by decide +kernel
theorem dX4_more_44 : decode cX4_more 44 = .ok (.iconst 1, 1) := by decide +kernel
theorem dX4_more_45 : decode cX4_more 45 = .ok (.iload 4, 2) := by decide +kernel
theorem dX4_more_47 : decode cX4_more 47 = .ok (.ishl, 1) := by decide +kernel
theorem dX4_more_48 : decode cX4_more 48 = .ok (.ior, 1) := by decide +kernel
theorem dX4_more_49 : decode cX4_more 49 = .ok (.iastore, 1) := by decide +kernel
theorem dX4_more_50 : decode cX4_more 50 = .ok (.aload_n 0, 1) := by decide +kernel
theorem dX4_more_51 : decode cX4_more 51 = .ok (.iload_n 1, 1) := by decide +kernel
theorem dX4_more_52 : decode cX4_more 52 = .ok (.invokevirtual 153, 3) := by decide +kernel
theorem dX4_more_55 : decode cX4_more 55 = .ok (.aload_n 0, 1) := by decide +kernel
theorem dX4_more_56 : decode cX4_more 56 = .ok (.aload_n 0, 1) := by decide +kernel
theorem dX4_more_57 : decode cX4_more 57 = .ok (.invokevirtual 124, 3) := by decide +kernel
theorem dX4_more_60 : decode cX4_more 60 = .ok (.invokestatic 128, 3) := by decide +kernel
theorem dX4_more_63 : decode cX4_more 63 = .ok (.invokevirtual 167, 3) := by decide +kernel
theorem dX4_more_66 : decode cX4_more 66 = .ok (.istore 5, 2) := by decide +kernel
theorem dX4_more_68 : decode cX4_more 68 = .ok (.iload 5, 2) := by decide +kernel
theorem dX4_more_70 : decode cX4_more 70 = .ok (.iload_n 2, 1) := by decide +kernel
theorem dX4_more_71 : decode cX4_more 71 = .ok (.if_icmp .le 8, 3) := by decide +kernel
theorem dX4_more_74 : decode cX4_more 74 = .ok (.iload 4, 2) := by decide +kernel
theorem dX4_more_76 : decode cX4_more 76 = .ok (.goto 4, 3) := by decide +kernel
theorem dX4_more_79 : decode cX4_more 79 = .ok (.iload_n 3, 1) := by decide +kernel
theorem dX4_more_80 : decode cX4_more 80 = .ok (.istore_n 3, 1) := by decide +kernel
theorem dX4_more_81 : decode cX4_more 81 = .ok (.iload 5, 2) := by decide +kernel
theorem dX4_more_83 : decode cX4_more 83 = .ok (.iload_n 2, 1) := by decide +kernel
theorem dX4_more_84 : decode cX4_more 84 = .ok (.if_icmp .le 8, 3) := by decide +kernel
theorem dX4_more_87 : decode cX4_more 87 = .ok (.iload 5, 2) := by decide +kernel
theorem dX4_more_89 : decode cX4_more 89 = .ok (.goto 4, 3) := by decide +kernel
theorem dX4_more_92 : decode cX4_more 92 = .ok (.iload_n 2, 1) := by decide +kernel
theorem dX4_more_93 : decode cX4_more 93 = .ok (.istore_n 2, 1) := by decide +kernel
theorem dX4_more_94 : decode cX4_more 94 = .ok (.iinc 4 1, 3) := by decide +kernel
theorem dX4_more_97 : decode cX4_more 97 = .ok (.goto (-67), 3) := by decide +kernel
theorem dX4_more_100 : decode cX4_more 100 = .ok (.iload_n 3, 1) := by decide +kernel
theorem dX4_more_101 : decode cX4_more 101 = .ok (.ireturn, 1) := by decide +kernel
theorem dX4_best_0 : decode cX4_best 0 = .ok (.iload_n 1, 1) := by decide +kernel
theorem dX4_best_1 : decode cX4_best 1 = .ok (.i2l, 1) := by decide +kernel
theorem dX4_best_2 : decode cX4_best 2 = .ok (.lconst 0, 1) := by decide +kernel
theorem dX4_best_3 : decode cX4_best 3 = .ok (.ldc2_w 199, 3) := by decide +kernel
theorem dX4_best_6 : decode cX4_best 6 = .ok (.invokestatic 44, 3) := by decide +kernel
theorem dX4_best_9 : decode cX4_best 9 = .ok (.ifCond .ne 10, 3) := by decide +kernel
theorem dX4_best_12 : decode cX4_best 12 = .ok (.aload_n 0, 1) := by decide +kernel
theorem dX4_best_13 : decode cX4_best 13 = .ok (.ldc 41, 2) := by decide +kernel
theorem dX4_best_15 : decode cX4_best 15 = .ok (.invokevirtual 66, 3) := by decide +kernel
theorem dX4_best_18 : decode cX4_best 18 = .ok (.ireturn, 1) := by decide +kernel
theorem dX4_best_19 : decode cX4_best 19 = .ok (.iconst (-1), 1) := by decide +kernel
theorem dX4_best_20 : decode cX4_best 20 = .ok (.istore_n 2, 1) := by decide +kernel
theorem dX4_best_21 : decode cX4_best 21 = .ok (.iconst 0, 1) := by decide +kernel
theorem dX4_best_22 : decode cX4_best 22 = .ok (.istore_n 3, 1) := by decide +kernel
theorem dX4_best_23 : decode cX4_best 23 = .ok (.aload_n 0, 1) := by decide +kernel
theorem dX4_best_24 : decode cX4_best 24 = .ok (.invokevirtual 164, 3) := by decide +kernel
theorem dX4_best_27 : decode cX4_best 27 = .ok (.iconst 0, 1) := by decide +kernel
theorem dX4_best_28 : decode cX4_best 28 = .ok (.istore 4, 2) := by decide +kernel
theorem dX4_best_30 : decode cX4_best 30 = .ok (.iload 4, 2) := by decide +kernel
theorem dX4_best_32 : decode cX4_best 32 = .ok (.bipush 36, 2) := by decide +kernel
theorem dX4_best_34 : decode cX4_best 34 = .ok (.if_icmp .ge 61, 3) := by decide +kernel
theorem dX4_best_37 : decode cX4_best 37 = .ok (.aload_n 0, 1) := by decide +kernel
theorem dX4_best_38 : decode cX4_best 38 = .ok (.getfield 7, 3) := by decide +kernel
theorem dX4_best_41 : decode cX4_best 41 = .ok (.iconst 3, 1) := by decide +kernel
theorem dX4_best_42 : decode cX4_best 42 = .ok (.iload 4, 2) := by decide +kernel
theorem dX4_best_44 : decode cX4_best 44 = .ok (.iastore, 1) := by decide +kernel
theorem dX4_best_45 : decode cX4_best 45 = .ok (.aload_n 0, 1) := by decide +kernel
theorem dX4_best_46 : decode cX4_best 46 = .ok (.iload_n 1, 1) := by decide +kernel
theorem dX4_best_47 : decode cX4_best 47 = .ok (.invokevirtual 153, 3) := by decide +kernel
theorem dX4_best_50 : decode cX4_best 50 = .ok (.aload_n 0, 1) := by decide +kernel
theorem dX4_best_51 : decode cX4_best 51 = .ok (.aload_n 0, 1) := by decide +kernel
theorem dX4_best_52 : decode cX4_best 52 = .ok (.invokevirtual 124, 3) := by decide +kernel
theorem dX4_best_55 : decode cX4_best 55 = .ok (.invokestatic 128, 3) := by decide +kernel
theorem dX4_best_58 : decode cX4_best 58 = .ok (.invokevirtual 167, 3) := by decide +kernel
theorem dX4_best_61 : decode cX4_best 61 = .ok (.istore 5, 2) := by decide +kernel
theorem dX4_best_63 : decode cX4_best 63 = .ok (.iload 5, 2) := by decide +kernel
theorem dX4_best_65 : decode cX4_best 65 = .ok (.iload_n 2, 1) := by decide +kernel
theorem dX4_best_66 : decode cX4_best 66 = .ok (.if_icmp .le 8, 3) := by decide +kernel
theorem dX4_best_69 : decode cX4_best 69 = .ok (.iload 4, 2) := by decide +kernel
theorem dX4_best_71 : decode cX4_best 71 = .ok (.goto 4, 3) := by decide +kernel
theorem dX4_best_74 : decode cX4_best 74 = .ok (.iload_n 3, 1) := by decide +kernel
theorem dX4_best_75 : decode cX4_best 75 = .ok (.istore_n 3, 1) := by decide +kernel
theorem dX4_best_76 : decode cX4_best 76 = .ok (.iload 5, 2) := by decide +kernel
theorem dX4_best_78 : decode cX4_best 78 = .ok (.iload_n 2, 1) := by decide +kernel
theorem dX4_best_79 : decode cX4_best 79 = .ok (.if_icmp .le 8, 3) := by decide +kernel
theorem dX4_best_82 : decode cX4_best 82 = .ok (.iload 5, 2) := by decide +kernel
theorem dX4_best_84 : decode cX4_best 84 = .ok (.goto 4, 3) := by decide +kernel
theorem dX4_best_87 : decode cX4_best 87 = .ok (.iload_n 2, 1) := by decide +kernel
theorem dX4_best_88 : decode cX4_best 88 = .ok (.istore_n 2, 1) := by decide +kernel
theorem dX4_best_89 : decode cX4_best 89 = .ok (.iinc 4 1, 3) := by decide +kernel
theorem dX4_best_92 : decode cX4_best 92 = .ok (.goto (-62), 3) := by decide +kernel
theorem dX4_best_95 : decode cX4_best 95 = .ok (.iload_n 3, 1) := by decide +kernel
theorem dX4_best_96 : decode cX4_best 96 = .ok (.ireturn, 1) := by decide +kernel
theorem dX4_feed_0 : decode cX4_feed 0 = .ok (.iload_n 2, 1) := by decide +kernel
theorem dX4_feed_1 : decode cX4_feed 1 = .ok (.i2l, 1) := by decide +kernel
theorem dX4_feed_2 : decode cX4_feed 2 = .ok (.lconst 1, 1) := by decide +kernel
theorem dX4_feed_3 : decode cX4_feed 3 = .ok (.ldc2_w 201, 3) := by decide +kernel
theorem dX4_feed_6 : decode cX4_feed 6 = .ok (.invokestatic 44, 3) := by decide +kernel
theorem dX4_feed_9 : decode cX4_feed 9 = .ok (.ifCond .ne 10, 3) := by decide +kernel
theorem dX4_feed_12 : decode cX4_feed 12 = .ok (.aload_n 0, 1) := by decide +kernel
theorem dX4_feed_13 : decode cX4_feed 13 = .ok (.ldc 41, 2) := by decide +kernel
theorem dX4_feed_15 : decode cX4_feed 15 = .ok (.invokevirtual 66, 3) := by decide +kernel
theorem dX4_feed_18 : decode cX4_feed 18 = .ok (.ireturn, 1) := by decide +kernel
theorem dX4_feed_19 : decode cX4_feed 19 = .ok (.aload_n 0, 1) := by decide +kernel
theorem dX4_feed_20 : decode cX4_feed 20 = .ok (.getfield 203, 3) := by decide +kernel
theorem dX4_feed_23 : decode cX4_feed 23 = .ok (.iload_n 2, 1) := by decide +kernel
theorem dX4_feed_24 : decode cX4_feed 24 = .ok (.iadd, 1) := by decide +kernel
theorem dX4_feed_25 : decode cX4_feed 25 = .ok (.bipush 120, 2) := by decide +kernel
theorem dX4_feed_27 : decode cX4_feed 27 = .ok (.if_icmp .le 10, 3) := by decide +kernel
theorem dX4_feed_30 : decode cX4_feed 30 = .ok (.aload_n 0, 1) := by decide +kernel
theorem dX4_feed_31 : decode cX4_feed 31 = .ok (.ldc 79, 2) := by decide +kernel
theorem dX4_feed_33 : decode cX4_feed 33 = .ok (.invokevirtual 66, 3) := by decide +kernel
theorem dX4_feed_36 : decode cX4_feed 36 = .ok (.ireturn, 1) := by decide +kernel
theorem dX4_feed_37 : decode cX4_feed 37 = .ok (.iload_n 2, 1) := by decide +kernel
theorem dX4_feed_38 : decode cX4_feed 38 = .ok (.iconst 1, 1) := by decide +kernel
theorem dX4_feed_39 : decode cX4_feed 39 = .ok (.isub, 1) := by decide +kernel
theorem dX4_feed_40 : decode cX4_feed 40 = .ok (.istore_n 3, 1) := by decide +kernel
theorem dX4_feed_41 : decode cX4_feed 41 = .ok (.iload_n 3, 1) := by decide +kernel
theorem dX4_feed_42 : decode cX4_feed 42 = .ok (.ifCond .lt 38, 3) := by decide +kernel
theorem dX4_feed_45 : decode cX4_feed 45 = .ok (.aload_n 0, 1) := by decide +kernel
theorem dX4_feed_46 : decode cX4_feed 46 = .ok (.getfield 25, 3) := by decide +kernel
theorem dX4_feed_49 : decode cX4_feed 49 = .ok (.aload_n 0, 1) := by decide +kernel
theorem dX4_feed_50 : decode cX4_feed 50 = .ok (.getfield 203, 3) := by decide +kernel
theorem dX4_feed_53 : decode cX4_feed 53 = .ok (.iload_n 1, 1) := by decide +kernel
theorem dX4_feed_54 : decode cX4_feed 54 = .ok (.bipush 8, 2) := by decide +kernel
theorem dX4_feed_56 : decode cX4_feed 56 = .ok (.iload_n 3, 1) := by decide +kernel
theorem dX4_feed_57 : decode cX4_feed 57 = .ok (.imul, 1) := by decide +kernel
theorem dX4_feed_58 : decode cX4_feed 58 = .ok (.ishr, 1) := by decide +kernel
theorem dX4_feed_59 : decode cX4_feed 59 = .ok (.sipush 255, 3) := by decide +kernel
theorem dX4_feed_62 : decode cX4_feed 62 = .ok (.iand, 1) := by decide +kernel
theorem dX4_feed_63 : decode cX4_feed 63 = .ok (.iastore, 1) := by decide +kernel
theorem dX4_feed_64 : decode cX4_feed 64 = .ok (.aload_n 0, 1) := by decide +kernel
theorem dX4_feed_65 : decode cX4_feed 65 = .ok (.dup, 1) := by decide +kernel
theorem dX4_feed_66 : decode cX4_feed 66 = .ok (.getfield 203, 3) := by decide +kernel
theorem dX4_feed_69 : decode cX4_feed 69 = .ok (.iconst 1, 1) := by decide +kernel
theorem dX4_feed_70 : decode cX4_feed 70 = .ok (.iadd, 1) := by decide +kernel
theorem dX4_feed_71 : decode cX4_feed 71 = .ok (.putfield 203, 3) := by decide +kernel
theorem dX4_feed_74 : decode cX4_feed 74 = .ok (.iinc 3 (-1), 3) := by decide +kernel
theorem dX4_feed_77 : decode cX4_feed 77 = .ok (.goto (-36), 3) := by decide +kernel
theorem dX4_feed_80 : decode cX4_feed 80 = .ok (.aload_n 0, 1) := by decide +kernel
theorem dX4_feed_81 : decode cX4_feed 81 = .ok (.getfield 203, 3) := by decide +kernel
theorem dX4_feed_84 : decode cX4_feed 84 = .ok (.ireturn, 1) := by decide +kernel
theorem dX4_wipe_0 : decode cX4_wipe 0 = .ok (.aload_n 0, 1) := by decide +kernel
theorem dX4_wipe_1 : decode cX4_wipe 1 = .ok (.getfield 203, 3) := by decide +kernel
theorem dX4_wipe_4 : decode cX4_wipe 4 = .ok (.istore_n 1, 1) := by decide +kernel
theorem dX4_wipe_5 : decode cX4_wipe 5 = .ok (.aload_n 0, 1) := by decide +kernel
theorem dX4_wipe_6 : decode cX4_wipe 6 = .ok (.iconst 0, 1) := by decide +kernel
theorem dX4_wipe_7 : decode cX4_wipe 7 = .ok (.putfield 203, 3) := by decide +kernel
theorem dX4_wipe_10 : decode cX4_wipe 10 = .ok (.iload_n 1, 1) := by decide +kernel
theorem dX4_wipe_11 : decode cX4_wipe 11 = .ok (.ireturn, 1) := by decide +kernel
theorem dX4_byteAt_0 : decode cX4_byteAt 0 = .ok (.iload_n 1, 1) := by decide +kernel
theorem dX4_byteAt_1 : decode cX4_byteAt 1 = .ok (.aload_n 0, 1) := by decide +kernel
theorem dX4_byteAt_2 : decode cX4_byteAt 2 = .ok (.getfield 203, 3) := by decide +kernel
theorem dX4_byteAt_5 : decode cX4_byteAt 5 = .ok (.if_icmp .ge 12, 3) := by decide +kernel
theorem dX4_byteAt_8 : decode cX4_byteAt 8 = .ok (.aload_n 0, 1) := by decide +kernel
theorem dX4_byteAt_9 : decode cX4_byteAt 9 = .ok (.getfield 25, 3) := by decide +kernel
theorem dX4_byteAt_12 : decode cX4_byteAt 12 = .ok (.iload_n 1, 1) := by decide +kernel
theorem dX4_byteAt_13 : decode cX4_byteAt 13 = .ok (.iaload, 1) := by decide +kernel
theorem dX4_byteAt_14 : decode cX4_byteAt 14 = .ok (.goto 4, 3) := by decide +kernel
theorem dX4_byteAt_17 : decode cX4_byteAt 17 = .ok (.iconst (-1), 1) := by decide +kernel
theorem dX4_byteAt_18 : decode cX4_byteAt 18 = .ok (.ireturn, 1) := by decide +kernel
theorem dX4_isLetter_0 : decode cX4_isLetter 0 = .ok (.iload_n 0, 1) := by decide +kernel
theorem dX4_isLetter_1 : decode cX4_isLetter 1 = .ok (.i2l, 1) := by decide +kernel
theorem dX4_isLetter_2 : decode cX4_isLetter 2 = .ok (.ldc2_w 206, 3) := by decide +kernel
theorem dX4_isLetter_5 : decode cX4_isLetter 5 = .ok (.ldc2_w 208, 3) := by decide +kernel
theorem dX4_isLetter_8 : decode cX4_isLetter 8 = .ok (.invokestatic 44, 3) := by decide +kernel
theorem dX4_isLetter_11 : decode cX4_isLetter 11 = .ok (.ireturn, 1) := by decide +kernel
theorem dX4_isDigit_0 : decode cX4_isDigit 0 = .ok (.iload_n 0, 1) := by decide +kernel
theorem dX4_isDigit_1 : decode cX4_isDigit 1 = .ok (.i2l, 1) := by decide +kernel
theorem dX4_isDigit_2 : decode cX4_isDigit 2 = .ok (.ldc2_w 210, 3) := by decide +kernel
theorem dX4_isDigit_5 : decode cX4_isDigit 5 = .ok (.ldc2_w 212, 3) := by decide +kernel
theorem dX4_isDigit_8 : decode cX4_isDigit 8 = .ok (.invokestatic 44, 3) := by decide +kernel
theorem dX4_isDigit_11 : decode cX4_isDigit 11 = .ok (.ireturn, 1) := by decide +kernel
theorem dX4_token_0 : decode cX4_token 0 = .ok (.aload_n 0, 1) := by decide +kernel
theorem dX4_token_1 : decode cX4_token 1 = .ok (.aload_n 0, 1) := by decide +kernel
theorem dX4_token_2 : decode cX4_token 2 = .ok (.getfield 214, 3) := by decide +kernel
theorem dX4_token_5 : decode cX4_token 5 = .ok (.putfield 217, 3) := by decide +kernel
theorem dX4_token_8 : decode cX4_token 8 = .ok (.aload_n 0, 1) := by decide +kernel
theorem dX4_token_9 : decode cX4_token 9 = .ok (.aload_n 0, 1) := by decide +kernel
theorem dX4_token_10 : decode cX4_token 10 = .ok (.getfield 217, 3) := by decide +kernel
theorem dX4_token_13 : decode cX4_token 13 = .ok (.invokevirtual 220, 3) := by decide +kernel
theorem dX4_token_16 : decode cX4_token 16 = .ok (.bipush 32, 2) := by decide +kernel
theorem dX4_token_18 : decode cX4_token 18 = .ok (.if_icmp .ne 16, 3) := by decide +kernel
theorem dX4_token_21 : decode cX4_token 21 = .ok (.aload_n 0, 1) := by decide +kernel
theorem dX4_token_22 : decode cX4_token 22 = .ok (.dup, 1) := by decide +kernel
theorem dX4_token_23 : decode cX4_token 23 = .ok (.getfield 217, 3) := by decide +kernel
theorem dX4_token_26 : decode cX4_token 26 = .ok (.iconst 1, 1) := by decide +kernel
theorem dX4_token_27 : decode cX4_token 27 = .ok (.iadd, 1) := by decide +kernel
theorem dX4_token_28 : decode cX4_token 28 = .ok (.putfield 217, 3) := by decide +kernel
theorem dX4_token_31 : decode cX4_token 31 = .ok (.goto (-23), 3) := by decide +kernel
theorem dX4_token_34 : decode cX4_token 34 = .ok (.aload_n 0, 1) := by decide +kernel
theorem dX4_token_35 : decode cX4_token 35 = .ok (.aload_n 0, 1) := by decide +kernel
theorem dX4_token_36 : decode cX4_token 36 = .ok (.getfield 217, 3) := by decide +kernel
theorem dX4_token_39 : decode cX4_token 39 = .ok (.invokevirtual 220, 3) := by decide +kernel
theorem dX4_token_42 : decode cX4_token 42 = .ok (.invokestatic 223, 3) := by decide +kernel
theorem dX4_token_45 : decode cX4_token 45 = .ok (.istore_n 1, 1) := by decide +kernel
theorem dX4_token_46 : decode cX4_token 46 = .ok (.aload_n 0, 1) := by decide +kernel
theorem dX4_token_47 : decode cX4_token 47 = .ok (.aload_n 0, 1) := by decide +kernel
theorem dX4_token_48 : decode cX4_token 48 = .ok (.getfield 217, 3) := by decide +kernel
theorem dX4_token_51 : decode cX4_token 51 = .ok (.invokevirtual 220, 3) := by decide +kernel
theorem dX4_token_54 : decode cX4_token 54 = .ok (.invokestatic 226, 3) := by decide +kernel
theorem dX4_token_57 : decode cX4_token 57 = .ok (.istore_n 2, 1) := by decide +kernel
theorem dX4_token_58 : decode cX4_token 58 = .ok (.aload_n 0, 1) := by decide +kernel
theorem dX4_token_59 : decode cX4_token 59 = .ok (.aload_n 0, 1) := by decide +kernel
theorem dX4_token_60 : decode cX4_token 60 = .ok (.getfield 217, 3) := by decide +kernel
theorem dX4_token_63 : decode cX4_token 63 = .ok (.aload_n 0, 1) := by decide +kernel
theorem dX4_token_64 : decode cX4_token 64 = .ok (.getfield 203, 3) := by decide +kernel
theorem dX4_token_67 : decode cX4_token 67 = .ok (.if_icmp .ge 12, 3) := by decide +kernel
theorem dX4_token_70 : decode cX4_token 70 = .ok (.aload_n 0, 1) := by decide +kernel
theorem dX4_token_71 : decode cX4_token 71 = .ok (.getfield 217, 3) := by decide +kernel
theorem dX4_token_74 : decode cX4_token 74 = .ok (.iconst 1, 1) := by decide +kernel
theorem dX4_token_75 : decode cX4_token 75 = .ok (.iadd, 1) := by decide +kernel
theorem dX4_token_76 : decode cX4_token 76 = .ok (.goto 7, 3) := by decide +kernel
theorem dX4_token_79 : decode cX4_token 79 = .ok (.aload_n 0, 1) := by decide +kernel
theorem dX4_token_80 : decode cX4_token 80 = .ok (.getfield 217, 3) := by decide +kernel
theorem dX4_token_83 : decode cX4_token 83 = .ok (.putfield 214, 3) := by decide +kernel
theorem dX4_token_86 : decode cX4_token 86 = .ok (.iload_n 1, 1) := by decide +kernel
theorem dX4_token_87 : decode cX4_token 87 = .ok (.ifCond .eq 17, 3) := by decide +kernel
theorem dX4_token_90 : decode cX4_token 90 = .ok (.aload_n 0, 1) := by decide +kernel
theorem dX4_token_91 : decode cX4_token 91 = .ok (.aload_n 0, 1) := by decide +kernel
theorem dX4_token_92 : decode cX4_token 92 = .ok (.getfield 214, 3) := by decide +kernel
theorem dX4_token_95 : decode cX4_token 95 = .ok (.invokevirtual 220, 3) := by decide +kernel
theorem dX4_token_98 : decode cX4_token 98 = .ok (.invokestatic 223, 3) := by decide +kernel
theorem dX4_token_101 : decode cX4_token 101 = .ok (.ifCond .ne 21, 3) := by decide +kernel
theorem dX4_token_104 : decode cX4_token 104 = .ok (.iload_n 2, 1) := by decide +kernel
theorem dX4_token_105 : decode cX4_token 105 = .ok (.ifCond .eq 30, 3) := by decide +kernel
theorem dX4_token_108 : decode cX4_token 108 = .ok (.aload_n 0, 1) := by decide +kernel
theorem dX4_token_109 : decode cX4_token 109 = .ok (.aload_n 0, 1) := by decide +kernel
theorem dX4_token_110 : decode cX4_token 110 = .ok (.getfield 214, 3) := by decide +kernel
theorem dX4_token_113 : decode cX4_token 113 = .ok (.invokevirtual 220, 3) := by decide +kernel
theorem dX4_token_116 : decode cX4_token 116 = .ok (.invokestatic 226, 3) := by decide +kernel
theorem dX4_token_119 : decode cX4_token 119 = .ok (.ifCond .eq 16, 3) := by decide +kernel
theorem dX4_token_122 : decode cX4_token 122 = .ok (.aload_n 0, 1) := by decide +kernel
theorem dX4_token_123 : decode cX4_token 123 = .ok (.dup, 1) := by decide +kernel
theorem dX4_token_124 : decode cX4_token 124 = .ok (.getfield 214, 3) := by decide +kernel
theorem dX4_token_127 : decode cX4_token 127 = .ok (.iconst 1, 1) := by decide +kernel
theorem dX4_token_128 : decode cX4_token 128 = .ok (.iadd, 1) := by decide +kernel
theorem dX4_token_129 : decode cX4_token 129 = .ok (.putfield 214, 3) := by decide +kernel
theorem dX4_token_132 : decode cX4_token 132 = .ok (.goto (-46), 3) := by decide +kernel
theorem dX4_token_135 : decode cX4_token 135 = .ok (.return_, 1) := by decide +kernel
theorem dX4_must_0 : decode cX4_must 0 = .ok (.aload_n 0, 1) := by decide +kernel
theorem dX4_must_1 : decode cX4_must 1 = .ok (.aload_n 0, 1) := by decide +kernel
theorem dX4_must_2 : decode cX4_must 2 = .ok (.getfield 229, 3) := by decide +kernel
theorem dX4_must_5 : decode cX4_must 5 = .ok (.ifCond .ne 7, 3) := by decide +kernel
theorem dX4_must_8 : decode cX4_must 8 = .ok (.iload_n 1, 1) := by decide +kernel
theorem dX4_must_9 : decode cX4_must 9 = .ok (.ifCond .ne 7, 3) := by decide +kernel
theorem dX4_must_12 : decode cX4_must 12 = .ok (.iconst 1, 1) := by decide +kernel
theorem dX4_must_13 : decode cX4_must 13 = .ok (.goto 4, 3) := by decide +kernel
theorem dX4_must_16 : decode cX4_must 16 = .ok (.iconst 0, 1) := by decide +kernel
theorem dX4_must_17 : decode cX4_must 17 = .ok (.putfield 229, 3) := by decide +kernel
theorem dX4_must_20 : decode cX4_must 20 = .ok (.aload_n 0, 1) := by decide +kernel
theorem dX4_must_21 : decode cX4_must 21 = .ok (.getfield 229, 3) := by decide +kernel
theorem dX4_must_24 : decode cX4_must 24 = .ok (.ifCond .ne 7, 3) := by decide +kernel
theorem dX4_must_27 : decode cX4_must 27 = .ok (.aload_n 0, 1) := by decide +kernel
theorem dX4_must_28 : decode cX4_must 28 = .ok (.invokevirtual 233, 3) := by decide +kernel
theorem dX4_must_31 : decode cX4_must 31 = .ok (.return_, 1) := by decide +kernel
theorem dX4_word_0 : decode cX4_word 0 = .ok (.lconst 0, 1) := by decide +kernel
theorem dX4_word_1 : decode cX4_word 1 = .ok (.lstore_n 1, 1) := by decide +kernel
theorem dX4_word_2 : decode cX4_word 2 = .ok (.aload_n 0, 1) := by decide +kernel
theorem dX4_word_3 : decode cX4_word 3 = .ok (.getfield 217, 3) := by decide +kernel
theorem dX4_word_6 : decode cX4_word 6 = .ok (.istore_n 3, 1) := by decide +kernel
theorem dX4_word_7 : decode cX4_word 7 = .ok (.iload_n 3, 1) := by decide +kernel
theorem dX4_word_8 : decode cX4_word 8 = .ok (.aload_n 0, 1) := by decide +kernel
theorem dX4_word_9 : decode cX4_word 9 = .ok (.getfield 214, 3) := by decide +kernel
theorem dX4_word_12 : decode cX4_word 12 = .ok (.if_icmp .ge 38, 3) := by decide +kernel
theorem dX4_word_15 : decode cX4_word 15 = .ok (.lload_n 1, 1) := by decide +kernel
theorem dX4_word_16 : decode cX4_word 16 = .ok (.ldc2_w 236, 3) := by decide +kernel
theorem dX4_word_19 : decode cX4_word 19 = .ok (.lcmp, 1) := by decide +kernel
theorem dX4_word_20 : decode cX4_word 20 = .ok (.ifCond .le 7, 3) := by decide +kernel
theorem dX4_word_23 : decode cX4_word 23 = .ok (.lload_n 1, 1) := by decide +kernel
theorem dX4_word_24 : decode cX4_word 24 = .ok (.goto 19, 3) := by decide +kernel
theorem dX4_word_27 : decode cX4_word 27 = .ok (.ldc2_w 238, 3) := by decide +kernel
theorem dX4_word_30 : decode cX4_word 30 = .ok (.lload_n 1, 1) := by decide +kernel
theorem dX4_word_31 : decode cX4_word 31 = .ok (.lmul, 1) := by decide +kernel
theorem dX4_word_32 : decode cX4_word 32 = .ok (.aload_n 0, 1) := by decide +kernel
theorem dX4_word_33 : decode cX4_word 33 = .ok (.getfield 25, 3) := by decide +kernel
theorem dX4_word_36 : decode cX4_word 36 = .ok (.iload_n 3, 1) := by decide +kernel
theorem dX4_word_37 : decode cX4_word 37 = .ok (.iaload, 1) := by decide +kernel
theorem dX4_word_38 : decode cX4_word 38 = .ok (.bipush 96, 2) := by decide +kernel
theorem dX4_word_40 : decode cX4_word 40 = .ok (.isub, 1) := by decide +kernel
theorem dX4_word_41 : decode cX4_word 41 = .ok (.i2l, 1) := by decide +kernel
theorem dX4_word_42 : decode cX4_word 42 = .ok (.ladd, 1) := by decide +kernel
theorem dX4_word_43 : decode cX4_word 43 = .ok (.lstore_n 1, 1) := by decide +kernel
theorem dX4_word_44 : decode cX4_word 44 = .ok (.iinc 3 1, 3) := by decide +kernel
theorem dX4_word_47 : decode cX4_word 47 = .ok (.goto (-40), 3) := by decide +kernel
theorem dX4_word_50 : decode cX4_word 50 = .ok (.aload_n 0, 1) := by decide +kernel
theorem dX4_word_51 : decode cX4_word 51 = .ok (.getfield 229, 3) := by decide +kernel
theorem dX4_word_54 : decode cX4_word 54 = .ok (.ifCond .ne 17, 3) := by decide +kernel
theorem dX4_word_57 : decode cX4_word 57 = .ok (.aload_n 0, 1) := by decide +kernel
theorem dX4_word_58 : decode cX4_word 58 = .ok (.aload_n 0, 1) := by decide +kernel
theorem dX4_word_59 : decode cX4_word 59 = .ok (.getfield 217, 3) := by decide +kernel
theorem dX4_word_62 : decode cX4_word 62 = .ok (.invokevirtual 220, 3) := by decide +kernel
theorem dX4_word_65 : decode cX4_word 65 = .ok (.invokestatic 223, 3) := by decide +kernel
theorem dX4_word_68 : decode cX4_word 68 = .ok (.ifCond .ne 7, 3) := by decide +kernel
theorem dX4_word_71 : decode cX4_word 71 = .ok (.lconst 0, 1) := by decide +kernel
theorem dX4_word_72 : decode cX4_word 72 = .ok (.goto 4, 3) := by decide +kernel
theorem dX4_word_75 : decode cX4_word 75 = .ok (.lload_n 1, 1) := by decide +kernel
theorem dX4_word_76 : decode cX4_word 76 = .ok (.lreturn, 1) := by decide +kernel
theorem dX4_number_0 : decode cX4_number 0 = .ok (.aload_n 0, 1) := by decide +kernel
theorem dX4_number_1 : decode cX4_number 1 = .ok (.getfield 229, 3) := by decide +kernel
theorem dX4_number_4 : decode cX4_number 4 = .ok (.ifCond .eq 4, 3) := by decide +kernel
theorem dX4_number_7 : decode cX4_number 7 = .ok (.return_, 1) := by decide +kernel
theorem dX4_number_8 : decode cX4_number 8 = .ok (.aload_n 0, 1) := by decide +kernel
theorem dX4_number_9 : decode cX4_number 9 = .ok (.aload_n 0, 1) := by decide +kernel
theorem dX4_number_10 : decode cX4_number 10 = .ok (.getfield 217, 3) := by decide +kernel
theorem dX4_number_13 : decode cX4_number 13 = .ok (.invokevirtual 220, 3) := by decide +kernel
theorem dX4_number_16 : decode cX4_number 16 = .ok (.invokestatic 226, 3) := by decide +kernel
theorem dX4_number_19 : decode cX4_number 19 = .ok (.istore_n 3, 1) := by decide +kernel
theorem dX4_number_20 : decode cX4_number 20 = .ok (.iconst 0, 1) := by decide +kernel
theorem dX4_number_21 : decode cX4_number 21 = .ok (.istore 4, 2) := by decide +kernel
theorem dX4_number_23 : decode cX4_number 23 = .ok (.aload_n 0, 1) := by decide +kernel
theorem dX4_number_24 : decode cX4_number 24 = .ok (.getfield 217, 3) := by decide +kernel
theorem dX4_number_27 : decode cX4_number 27 = .ok (.istore 5, 2) := by decide +kernel
theorem dX4_number_29 : decode cX4_number 29 = .ok (.iload 5, 2) := by decide +kernel
theorem dX4_number_31 : decode cX4_number 31 = .ok (.aload_n 0, 1) := by decide +kernel
theorem dX4_number_32 : decode cX4_number 32 = .ok (.getfield 214, 3) := by decide +kernel
theorem dX4_number_35 : decode cX4_number 35 = .ok (.if_icmp .ge 44, 3) := by decide +kernel
theorem dX4_number_38 : decode cX4_number 38 = .ok (.iload_n 3, 1) := by decide +kernel
theorem dX4_number_39 : decode cX4_number 39 = .ok (.ifCond .eq 40, 3) := by decide +kernel
theorem dX4_number_42 : decode cX4_number 42 = .ok (.iload 4, 2) := by decide +kernel
theorem dX4_number_44 : decode cX4_number 44 = .ok (.sipush 999, 3) := by decide +kernel
theorem dX4_number_47 : decode cX4_number 47 = .ok (.if_icmp .le 8, 3) := by decide +kernel
theorem dX4_number_50 : decode cX4_number 50 = .ok (.iload 4, 2) := by decide +kernel
theorem dX4_number_52 : decode cX4_number 52 = .ok (.goto 19, 3) := by decide +kernel
theorem dX4_number_55 : decode cX4_number 55 = .ok (.bipush 10, 2) := by decide +kernel
theorem dX4_number_57 : decode cX4_number 57 = .ok (.iload 4, 2) := by decide +kernel
theorem dX4_number_59 : decode cX4_number 59 = .ok (.imul, 1) := by decide +kernel
theorem dX4_number_60 : decode cX4_number 60 = .ok (.aload_n 0, 1) := by decide +kernel
theorem dX4_number_61 : decode cX4_number 61 = .ok (.getfield 25, 3) := by decide +kernel
theorem dX4_number_64 : decode cX4_number 64 = .ok (.iload 5, 2) := by decide +kernel
theorem dX4_number_66 : decode cX4_number 66 = .ok (.iaload, 1) := by decide +kernel
theorem dX4_number_67 : decode cX4_number 67 = .ok (.iadd, 1) := by decide +kernel
theorem dX4_number_68 : decode cX4_number 68 = .ok (.bipush 48, 2) := by decide +kernel
theorem dX4_number_70 : decode cX4_number 70 = .ok (.isub, 1) := by decide +kernel
theorem dX4_number_71 : decode cX4_number 71 = .ok (.istore 4, 2) := by decide +kernel
theorem dX4_number_73 : decode cX4_number 73 = .ok (.iinc 5 1, 3) := by decide +kernel
theorem dX4_number_76 : decode cX4_number 76 = .ok (.goto (-47), 3) := by decide +kernel
theorem dX4_number_79 : decode cX4_number 79 = .ok (.aload_n 0, 1) := by decide +kernel
theorem dX4_number_80 : decode cX4_number 80 = .ok (.iload 4, 2) := by decide +kernel
theorem dX4_number_82 : decode cX4_number 82 = .ok (.putfield 240, 3) := by decide +kernel
theorem dX4_number_85 : decode cX4_number 85 = .ok (.aload_n 0, 1) := by decide +kernel
theorem dX4_number_86 : decode cX4_number 86 = .ok (.iload_n 3, 1) := by decide +kernel
theorem dX4_number_87 : decode cX4_number 87 = .ok (.ifCond .eq 20, 3) := by decide +kernel
theorem dX4_number_90 : decode cX4_number 90 = .ok (.iload 4, 2) := by decide +kernel
theorem dX4_number_92 : decode cX4_number 92 = .ok (.i2l, 1) := by decide +kernel
theorem dX4_number_93 : decode cX4_number 93 = .ok (.iload_n 1, 1) := by decide +kernel
theorem dX4_number_94 : decode cX4_number 94 = .ok (.i2l, 1) := by decide +kernel
theorem dX4_number_95 : decode cX4_number 95 = .ok (.iload_n 2, 1) := by decide +kernel
theorem dX4_number_96 : decode cX4_number 96 = .ok (.i2l, 1) := by decide +kernel
theorem dX4_number_97 : decode cX4_number 97 = .ok (.invokestatic 44, 3) := by decide +kernel
theorem dX4_number_100 : decode cX4_number 100 = .ok (.ifCond .eq 7, 3) := by decide +kernel
theorem dX4_number_103 : decode cX4_number 103 = .ok (.iconst 1, 1) := by decide +kernel
theorem dX4_number_104 : decode cX4_number 104 = .ok (.goto 4, 3) := by decide +kernel
theorem dX4_number_107 : decode cX4_number 107 = .ok (.iconst 0, 1) := by decide +kernel
theorem dX4_number_108 : decode cX4_number 108 = .ok (.invokevirtual 243, 3) := by decide +kernel
theorem dX4_number_111 : decode cX4_number 111 = .ok (.return_, 1) := by decide +kernel
theorem dX4_kindHere_0 : decode cX4_kindHere 0 = .ok (.aload_n 0, 1) := by decide +kernel
theorem dX4_kindHere_1 : decode cX4_kindHere 1 = .ok (.invokevirtual 247, 3) := by decide +kernel
theorem dX4_kindHere_4 : decode cX4_kindHere 4 = .ok (.lstore_n 1, 1) := by decide +kernel
theorem dX4_kindHere_5 : decode cX4_kindHere 5 = .ok (.lload_n 1, 1) := by decide +kernel
theorem dX4_kindHere_6 : decode cX4_kindHere 6 = .ok (.ldc2_w 251, 3) := by decide +kernel
theorem dX4_kindHere_9 : decode cX4_kindHere 9 = .ok (.lcmp, 1) := by decide +kernel
theorem dX4_kindHere_10 : decode cX4_kindHere 10 = .ok (.ifCond .ne 7, 3) := by decide +kernel
theorem dX4_kindHere_13 : decode cX4_kindHere 13 = .ok (.iconst 0, 1) := by decide +kernel
theorem dX4_kindHere_14 : decode cX4_kindHere 14 = .ok (.goto 64, 3) := by decide +kernel
theorem dX4_kindHere_17 : decode cX4_kindHere 17 = .ok (.lload_n 1, 1) := by decide +kernel
theorem dX4_kindHere_18 : decode cX4_kindHere 18 = .ok (.ldc2_w 253, 3) := by decide +kernel
theorem dX4_kindHere_21 : decode cX4_kindHere 21 = .ok (.lcmp, 1) := by decide +kernel
theorem dX4_kindHere_22 : decode cX4_kindHere 22 = .ok (.ifCond .ne 7, 3) := by decide +kernel
theorem dX4_kindHere_25 : decode cX4_kindHere 25 = .ok (.iconst 1, 1) := by decide +kernel
theorem dX4_kindHere_26 : decode cX4_kindHere 26 = .ok (.goto 52, 3) := by decide +kernel
theorem dX4_kindHere_29 : decode cX4_kindHere 29 = .ok (.lload_n 1, 1) := by decide +kernel
theorem dX4_kindHere_30 : decode cX4_kindHere 30 = .ok (.ldc2_w 255, 3) := by decide +kernel
theorem dX4_kindHere_33 : decode cX4_kindHere 33 = .ok (.lcmp, 1) := by decide +kernel
theorem dX4_kindHere_34 : decode cX4_kindHere 34 = .ok (.ifCond .ne 7, 3) := by decide +kernel
theorem dX4_kindHere_37 : decode cX4_kindHere 37 = .ok (.iconst 2, 1) := by decide +kernel
theorem dX4_kindHere_38 : decode cX4_kindHere 38 = .ok (.goto 40, 3) := by decide +kernel
theorem dX4_kindHere_41 : decode cX4_kindHere 41 = .ok (.lload_n 1, 1) := by decide +kernel
theorem dX4_kindHere_42 : decode cX4_kindHere 42 = .ok (.ldc2_w 257, 3) := by decide +kernel
theorem dX4_kindHere_45 : decode cX4_kindHere 45 = .ok (.lcmp, 1) := by decide +kernel
theorem dX4_kindHere_46 : decode cX4_kindHere 46 = .ok (.ifCond .ne 7, 3) := by decide +kernel
theorem dX4_kindHere_49 : decode cX4_kindHere 49 = .ok (.iconst 3, 1) := by decide +kernel
theorem dX4_kindHere_50 : decode cX4_kindHere 50 = .ok (.goto 28, 3) := by decide +kernel
theorem dX4_kindHere_53 : decode cX4_kindHere 53 = .ok (.lload_n 1, 1) := by decide +kernel
theorem dX4_kindHere_54 : decode cX4_kindHere 54 = .ok (.ldc2_w 259, 3) := by decide +kernel
theorem dX4_kindHere_57 : decode cX4_kindHere 57 = .ok (.lcmp, 1) := by decide +kernel
theorem dX4_kindHere_58 : decode cX4_kindHere 58 = .ok (.ifCond .ne 7, 3) := by decide +kernel
theorem dX4_kindHere_61 : decode cX4_kindHere 61 = .ok (.iconst 4, 1) := by decide +kernel
theorem dX4_kindHere_62 : decode cX4_kindHere 62 = .ok (.goto 16, 3) := by decide +kernel
theorem dX4_kindHere_65 : decode cX4_kindHere 65 = .ok (.lload_n 1, 1) := by decide +kernel
theorem dX4_kindHere_66 : decode cX4_kindHere 66 = .ok (.ldc2_w 261, 3) := by decide +kernel
theorem dX4_kindHere_69 : decode cX4_kindHere 69 = .ok (.lcmp, 1) := by decide +kernel
theorem dX4_kindHere_70 : decode cX4_kindHere 70 = .ok (.ifCond .ne 7, 3) := by decide +kernel
theorem dX4_kindHere_73 : decode cX4_kindHere 73 = .ok (.iconst 5, 1) := by decide +kernel
theorem dX4_kindHere_74 : decode cX4_kindHere 74 = .ok (.goto 4, 3) := by decide +kernel
theorem dX4_kindHere_77 : decode cX4_kindHere 77 = .ok (.iconst (-1), 1) := by decide +kernel
theorem dX4_kindHere_78 : decode cX4_kindHere 78 = .ok (.ireturn, 1) := by decide +kernel
theorem dX4_partItem_0 : decode cX4_partItem 0 = .ok (.aload_n 0, 1) := by decide +kernel
theorem dX4_partItem_1 : decode cX4_partItem 1 = .ok (.invokevirtual 247, 3) := by decide +kernel
theorem dX4_partItem_4 : decode cX4_partItem 4 = .ok (.lload_n 1, 1) := by decide +kernel
theorem dX4_partItem_5 : decode cX4_partItem 5 = .ok (.lcmp, 1) := by decide +kernel
theorem dX4_partItem_6 : decode cX4_partItem 6 = .ok (.ifCond .ne 41, 3) := by decide +kernel
theorem dX4_partItem_9 : decode cX4_partItem 9 = .ok (.aload_n 0, 1) := by decide +kernel
theorem dX4_partItem_10 : decode cX4_partItem 10 = .ok (.iconst 1, 1) := by decide +kernel
theorem dX4_partItem_11 : decode cX4_partItem 11 = .ok (.invokevirtual 243, 3) := by decide +kernel
theorem dX4_partItem_14 : decode cX4_partItem 14 = .ok (.aload_n 0, 1) := by decide +kernel
theorem dX4_partItem_15 : decode cX4_partItem 15 = .ok (.iconst 0, 1) := by decide +kernel
theorem dX4_partItem_16 : decode cX4_partItem 16 = .ok (.iload 4, 2) := by decide +kernel
theorem dX4_partItem_18 : decode cX4_partItem 18 = .ok (.invokevirtual 263, 3) := by decide +kernel
theorem dX4_partItem_21 : decode cX4_partItem 21 = .ok (.aload_n 0, 1) := by decide +kernel
theorem dX4_partItem_22 : decode cX4_partItem 22 = .ok (.getfield 7, 3) := by decide +kernel
theorem dX4_partItem_25 : decode cX4_partItem 25 = .ok (.iload_n 3, 1) := by decide +kernel
theorem dX4_partItem_26 : decode cX4_partItem 26 = .ok (.aload_n 0, 1) := by decide +kernel
theorem dX4_partItem_27 : decode cX4_partItem 27 = .ok (.getfield 229, 3) := by decide +kernel
theorem dX4_partItem_30 : decode cX4_partItem 30 = .ok (.ifCond .eq 12, 3) := by decide +kernel
theorem dX4_partItem_33 : decode cX4_partItem 33 = .ok (.aload_n 0, 1) := by decide +kernel
theorem dX4_partItem_34 : decode cX4_partItem 34 = .ok (.getfield 7, 3) := by decide +kernel
theorem dX4_partItem_37 : decode cX4_partItem 37 = .ok (.iload_n 3, 1) := by decide +kernel
theorem dX4_partItem_38 : decode cX4_partItem 38 = .ok (.iaload, 1) := by decide +kernel
theorem dX4_partItem_39 : decode cX4_partItem 39 = .ok (.goto 7, 3) := by decide +kernel
theorem dX4_partItem_42 : decode cX4_partItem 42 = .ok (.aload_n 0, 1) := by decide +kernel
theorem dX4_partItem_43 : decode cX4_partItem 43 = .ok (.getfield 240, 3) := by decide +kernel
theorem dX4_partItem_46 : decode cX4_partItem 46 = .ok (.iastore, 1) := by decide +kernel
theorem dX4_partItem_47 : decode cX4_partItem 47 = .ok (.return_, 1) := by decide +kernel
theorem dX4_walkerItem_0 : decode cX4_walkerItem 0 = .ok (.aload_n 0, 1) := by decide +kernel
theorem dX4_walkerItem_1 : decode cX4_walkerItem 1 = .ok (.aload_n 0, 1) := by decide +kernel
theorem dX4_walkerItem_2 : decode cX4_walkerItem 2 = .ok (.getfield 7, 3) := by decide +kernel
theorem dX4_walkerItem_5 : decode cX4_walkerItem 5 = .ok (.iconst 0, 1) := by decide +kernel
theorem dX4_walkerItem_6 : decode cX4_walkerItem 6 = .ok (.iaload, 1) := by decide +kernel
theorem dX4_walkerItem_7 : decode cX4_walkerItem 7 = .ok (.bipush 8, 2) := by decide +kernel
theorem dX4_walkerItem_9 : decode cX4_walkerItem 9 = .ok (.if_icmp .ge 7, 3) := by decide +kernel
theorem dX4_walkerItem_12 : decode cX4_walkerItem 12 = .ok (.iconst 1, 1) := by decide +kernel
theorem dX4_walkerItem_13 : decode cX4_walkerItem 13 = .ok (.goto 4, 3) := by decide +kernel
theorem dX4_walkerItem_16 : decode cX4_walkerItem 16 = .ok (.iconst 0, 1) := by decide +kernel
theorem dX4_walkerItem_17 : decode cX4_walkerItem 17 = .ok (.invokevirtual 243, 3) := by decide +kernel
theorem dX4_walkerItem_20 : decode cX4_walkerItem 20 = .ok (.aload_n 0, 1) := by decide +kernel
theorem dX4_walkerItem_21 : decode cX4_walkerItem 21 = .ok (.aload_n 0, 1) := by decide +kernel
theorem dX4_walkerItem_22 : decode cX4_walkerItem 22 = .ok (.invokevirtual 247, 3) := by decide +kernel
theorem dX4_walkerItem_25 : decode cX4_walkerItem 25 = .ok (.ldc2_w 266, 3) := by decide +kernel
theorem dX4_walkerItem_28 : decode cX4_walkerItem 28 = .ok (.lcmp, 1) := by decide +kernel
theorem dX4_walkerItem_29 : decode cX4_walkerItem 29 = .ok (.ifCond .ne 7, 3) := by decide +kernel
theorem dX4_walkerItem_32 : decode cX4_walkerItem 32 = .ok (.iconst 1, 1) := by decide +kernel
theorem dX4_walkerItem_33 : decode cX4_walkerItem 33 = .ok (.goto 4, 3) := by decide +kernel
theorem dX4_walkerItem_36 : decode cX4_walkerItem 36 = .ok (.iconst 0, 1) := by decide +kernel
theorem dX4_walkerItem_37 : decode cX4_walkerItem 37 = .ok (.invokevirtual 243, 3) := by decide +kernel
theorem dX4_walkerItem_40 : decode cX4_walkerItem 40 = .ok (.aload_n 0, 1) := by decide +kernel
theorem dX4_walkerItem_41 : decode cX4_walkerItem 41 = .ok (.iconst 0, 1) := by decide +kernel
theorem dX4_walkerItem_42 : decode cX4_walkerItem 42 = .ok (.bipush 35, 2) := by decide +kernel
theorem dX4_walkerItem_44 : decode cX4_walkerItem 44 = .ok (.invokevirtual 263, 3) := by decide +kernel
theorem dX4_walkerItem_47 : decode cX4_walkerItem 47 = .ok (.aload_n 0, 1) := by decide +kernel
theorem dX4_walkerItem_48 : decode cX4_walkerItem 48 = .ok (.getfield 229, 3) := by decide +kernel
theorem dX4_walkerItem_51 : decode cX4_walkerItem 51 = .ok (.ifCond .eq 4, 3) := by decide +kernel
theorem dX4_walkerItem_54 : decode cX4_walkerItem 54 = .ok (.return_, 1) := by decide +kernel
theorem dX4_walkerItem_55 : decode cX4_walkerItem 55 = .ok (.aload_n 0, 1) := by decide +kernel
theorem dX4_walkerItem_56 : decode cX4_walkerItem 56 = .ok (.iload_n 1, 1) := by decide +kernel
theorem dX4_walkerItem_57 : decode cX4_walkerItem 57 = .ok (.aload_n 0, 1) := by decide +kernel
theorem dX4_walkerItem_58 : decode cX4_walkerItem 58 = .ok (.getfield 240, 3) := by decide +kernel
theorem dX4_walkerItem_61 : decode cX4_walkerItem 61 = .ok (.invokevirtual 80, 3) := by decide +kernel
theorem dX4_walkerItem_64 : decode cX4_walkerItem 64 = .ok (.istore_n 2, 1) := by decide +kernel
theorem dX4_walkerItem_65 : decode cX4_walkerItem 65 = .ok (.aload_n 0, 1) := by decide +kernel
theorem dX4_walkerItem_66 : decode cX4_walkerItem 66 = .ok (.ldc2_w 268, 3) := by decide +kernel
theorem dX4_walkerItem_69 : decode cX4_walkerItem 69 = .ok (.iload_n 2, 1) := by decide +kernel
theorem dX4_walkerItem_70 : decode cX4_walkerItem 70 = .ok (.iconst 3, 1) := by decide +kernel
theorem dX4_walkerItem_71 : decode cX4_walkerItem 71 = .ok (.invokestatic 54, 3) := by decide +kernel
theorem dX4_walkerItem_74 : decode cX4_walkerItem 74 = .ok (.iconst 3, 1) := by decide +kernel
theorem dX4_walkerItem_75 : decode cX4_walkerItem 75 = .ok (.invokevirtual 270, 3) := by decide +kernel
theorem dX4_walkerItem_78 : decode cX4_walkerItem 78 = .ok (.aload_n 0, 1) := by decide +kernel
theorem dX4_walkerItem_79 : decode cX4_walkerItem 79 = .ok (.ldc2_w 274, 3) := by decide +kernel
theorem dX4_walkerItem_82 : decode cX4_walkerItem 82 = .ok (.iload_n 2, 1) := by decide +kernel
theorem dX4_walkerItem_83 : decode cX4_walkerItem 83 = .ok (.iconst 4, 1) := by decide +kernel
theorem dX4_walkerItem_84 : decode cX4_walkerItem 84 = .ok (.invokestatic 54, 3) := by decide +kernel
theorem dX4_walkerItem_87 : decode cX4_walkerItem 87 = .ok (.bipush 15, 2) := by decide +kernel
theorem dX4_walkerItem_89 : decode cX4_walkerItem 89 = .ok (.invokevirtual 270, 3) := by decide +kernel
theorem dX4_walkerItem_92 : decode cX4_walkerItem 92 = .ok (.return_, 1) := by decide +kernel
theorem dX4_fogItem_0 : decode cX4_fogItem 0 = .ok (.aload_n 0, 1) := by decide +kernel
theorem dX4_fogItem_1 : decode cX4_fogItem 1 = .ok (.iconst 1, 1) := by decide +kernel
theorem dX4_fogItem_2 : decode cX4_fogItem 2 = .ok (.invokevirtual 243, 3) := by decide +kernel
theorem dX4_fogItem_5 : decode cX4_fogItem 5 = .ok (.aload_n 0, 1) := by decide +kernel
theorem dX4_fogItem_6 : decode cX4_fogItem 6 = .ok (.iconst 0, 1) := by decide +kernel
theorem dX4_fogItem_7 : decode cX4_fogItem 7 = .ok (.bipush 23, 2) := by decide +kernel
theorem dX4_fogItem_9 : decode cX4_fogItem 9 = .ok (.invokevirtual 263, 3) := by decide +kernel
theorem dX4_fogItem_12 : decode cX4_fogItem 12 = .ok (.aload_n 0, 1) := by decide +kernel
theorem dX4_fogItem_13 : decode cX4_fogItem 13 = .ok (.getfield 240, 3) := by decide +kernel
theorem dX4_fogItem_16 : decode cX4_fogItem 16 = .ok (.istore_n 2, 1) := by decide +kernel
theorem dX4_fogItem_17 : decode cX4_fogItem 17 = .ok (.aload_n 0, 1) := by decide +kernel
theorem dX4_fogItem_18 : decode cX4_fogItem 18 = .ok (.getfield 240, 3) := by decide +kernel
theorem dX4_fogItem_21 : decode cX4_fogItem 21 = .ok (.istore_n 3, 1) := by decide +kernel
theorem dX4_fogItem_22 : decode cX4_fogItem 22 = .ok (.aload_n 0, 1) := by decide +kernel
theorem dX4_fogItem_23 : decode cX4_fogItem 23 = .ok (.invokevirtual 247, 3) := by decide +kernel
theorem dX4_fogItem_26 : decode cX4_fogItem 26 = .ok (.ldc2_w 276, 3) := by decide +kernel
theorem dX4_fogItem_29 : decode cX4_fogItem 29 = .ok (.lcmp, 1) := by decide +kernel
theorem dX4_fogItem_30 : decode cX4_fogItem 30 = .ok (.ifCond .ne 20, 3) := by decide +kernel
theorem dX4_fogItem_33 : decode cX4_fogItem 33 = .ok (.aload_n 0, 1) := by decide +kernel
theorem dX4_fogItem_34 : decode cX4_fogItem 34 = .ok (.iconst 1, 1) := by decide +kernel
theorem dX4_fogItem_35 : decode cX4_fogItem 35 = .ok (.invokevirtual 243, 3) := by decide +kernel
theorem dX4_fogItem_38 : decode cX4_fogItem 38 = .ok (.aload_n 0, 1) := by decide +kernel
theorem dX4_fogItem_39 : decode cX4_fogItem 39 = .ok (.iload_n 2, 1) := by decide +kernel
theorem dX4_fogItem_40 : decode cX4_fogItem 40 = .ok (.bipush 23, 2) := by decide +kernel
theorem dX4_fogItem_42 : decode cX4_fogItem 42 = .ok (.invokevirtual 263, 3) := by decide +kernel
theorem dX4_fogItem_45 : decode cX4_fogItem 45 = .ok (.aload_n 0, 1) := by decide +kernel
theorem dX4_fogItem_46 : decode cX4_fogItem 46 = .ok (.getfield 240, 3) := by decide +kernel
theorem dX4_fogItem_49 : decode cX4_fogItem 49 = .ok (.istore_n 3, 1) := by decide +kernel
theorem dX4_fogItem_50 : decode cX4_fogItem 50 = .ok (.iload_n 2, 1) := by decide +kernel
theorem dX4_fogItem_51 : decode cX4_fogItem 51 = .ok (.istore 4, 2) := by decide +kernel
theorem dX4_fogItem_53 : decode cX4_fogItem 53 = .ok (.iload 4, 2) := by decide +kernel
theorem dX4_fogItem_55 : decode cX4_fogItem 55 = .ok (.iload_n 3, 1) := by decide +kernel
theorem dX4_fogItem_56 : decode cX4_fogItem 56 = .ok (.if_icmp .gt 53, 3) := by decide +kernel
theorem dX4_fogItem_59 : decode cX4_fogItem 59 = .ok (.aload_n 0, 1) := by decide +kernel
theorem dX4_fogItem_60 : decode cX4_fogItem 60 = .ok (.getfield 229, 3) := by decide +kernel
theorem dX4_fogItem_63 : decode cX4_fogItem 63 = .ok (.ifCond .ne 46, 3) := by decide +kernel
theorem dX4_fogItem_66 : decode cX4_fogItem 66 = .ok (.aload_n 0, 1) := by decide +kernel
theorem dX4_fogItem_67 : decode cX4_fogItem 67 = .ok (.getfield 7, 3) := by decide +kernel
theorem dX4_fogItem_70 : decode cX4_fogItem 70 = .ok (.iconst 2, 1) := by decide +kernel
theorem dX4_fogItem_71 : decode cX4_fogItem 71 = .ok (.iload_n 1, 1) := by decide +kernel
theorem dX4_fogItem_72 : decode cX4_fogItem 72 = .ok (.ifCond .eq 17, 3) := by decide +kernel
theorem dX4_fogItem_75 : decode cX4_fogItem 75 = .ok (.aload_n 0, 1) := by decide +kernel
theorem dX4_fogItem_76 : decode cX4_fogItem 76 = .ok (.getfield 7, 3) := by decide +kernel
theorem dX4_fogItem_79 : decode cX4_fogItem 79 = .ok (.iconst 2, 1) := by decide +kernel
theorem dX4_fogItem_80 : decode cX4_fogItem 80 = .ok (.iaload, 1) := by decide +kernel
theorem dX4_fogItem_81 : decode cX4_fogItem 81 = .ok (.iconst 1, 1) := by decide +kernel
theorem dX4_fogItem_82 : decode cX4_fogItem 82 = .ok (.iload 4, 2) := by decide +kernel
theorem dX4_fogItem_84 : decode cX4_fogItem 84 = .ok (.ishl, 1) := by decide +kernel
theorem dX4_fogItem_85 : decode cX4_fogItem 85 = .ok (.ior, 1) := by decide +kernel
theorem dX4_fogItem_86 : decode cX4_fogItem 86 = .ok (.goto 16, 3) := by decide +kernel
theorem dX4_fogItem_89 : decode cX4_fogItem 89 = .ok (.aload_n 0, 1) := by decide +kernel
theorem dX4_fogItem_90 : decode cX4_fogItem 90 = .ok (.getfield 7, 3) := by decide +kernel
theorem dX4_fogItem_93 : decode cX4_fogItem 93 = .ok (.iconst 2, 1) := by decide +kernel
theorem dX4_fogItem_94 : decode cX4_fogItem 94 = .ok (.iaload, 1) := by decide +kernel
theorem dX4_fogItem_95 : decode cX4_fogItem 95 = .ok (.iconst 1, 1) := by decide +kernel
theorem dX4_fogItem_96 : decode cX4_fogItem 96 = .ok (.iload 4, 2) := by decide +kernel
theorem dX4_fogItem_98 : decode cX4_fogItem 98 = .ok (.ishl, 1) := by decide +kernel
theorem dX4_fogItem_99 : decode cX4_fogItem 99 = .ok (.iconst (-1), 1) := by decide +kernel
theorem dX4_fogItem_100 : decode cX4_fogItem 100 = .ok (.ixor, 1) := by decide +kernel
theorem dX4_fogItem_101 : decode cX4_fogItem 101 = .ok (.iand, 1) := by decide +kernel
theorem dX4_fogItem_102 : decode cX4_fogItem 102 = .ok (.iastore, 1) := by decide +kernel
theorem dX4_fogItem_103 : decode cX4_fogItem 103 = .ok (.iinc 4 1, 3) := by decide +kernel
theorem dX4_fogItem_106 : decode cX4_fogItem 106 = .ok (.goto (-53), 3) := by decide +kernel
theorem dX4_fogItem_109 : decode cX4_fogItem 109 = .ok (.return_, 1) := by decide +kernel
theorem dX4_item_0 : decode cX4_item 0 = .ok (.aload_n 0, 1) := by decide +kernel
theorem dX4_item_1 : decode cX4_item 1 = .ok (.invokevirtual 278, 3) := by decide +kernel
theorem dX4_item_4 : decode cX4_item 4 = .ok (.istore_n 1, 1) := by decide +kernel
theorem dX4_item_5 : decode cX4_item 5 = .ok (.aload_n 0, 1) := by decide +kernel
theorem dX4_item_6 : decode cX4_item 6 = .ok (.invokevirtual 247, 3) := by decide +kernel
theorem dX4_item_9 : decode cX4_item 9 = .ok (.lstore_n 2, 1) := by decide +kernel
theorem dX4_item_10 : decode cX4_item 10 = .ok (.lload_n 2, 1) := by decide +kernel
theorem dX4_item_11 : decode cX4_item 11 = .ok (.ldc2_w 281, 3) := by decide +kernel
theorem dX4_item_14 : decode cX4_item 14 = .ok (.lcmp, 1) := by decide +kernel
theorem dX4_item_15 : decode cX4_item 15 = .ok (.ifCond .ne 7, 3) := by decide +kernel
theorem dX4_item_18 : decode cX4_item 18 = .ok (.iconst 1, 1) := by decide +kernel
theorem dX4_item_19 : decode cX4_item 19 = .ok (.goto 4, 3) := by decide +kernel
theorem dX4_item_22 : decode cX4_item 22 = .ok (.iconst 0, 1) := by decide +kernel
theorem dX4_item_23 : decode cX4_item 23 = .ok (.istore 4, 2) := by decide +kernel
theorem dX4_item_25 : decode cX4_item 25 = .ok (.iload_n 1, 1) := by decide +kernel
theorem dX4_item_26 : decode cX4_item 26 = .ok (.ifCond .lt 11, 3) := by decide +kernel
theorem dX4_item_29 : decode cX4_item 29 = .ok (.aload_n 0, 1) := by decide +kernel
theorem dX4_item_30 : decode cX4_item 30 = .ok (.iload_n 1, 1) := by decide +kernel
theorem dX4_item_31 : decode cX4_item 31 = .ok (.invokevirtual 283, 3) := by decide +kernel
theorem dX4_item_34 : decode cX4_item 34 = .ok (.goto 75, 3) := by decide +kernel
theorem dX4_item_37 : decode cX4_item 37 = .ok (.iload 4, 2) := by decide +kernel
theorem dX4_item_39 : decode cX4_item 39 = .ok (.ifCond .ne 11, 3) := by decide +kernel
theorem dX4_item_42 : decode cX4_item 42 = .ok (.lload_n 2, 1) := by decide +kernel
theorem dX4_item_43 : decode cX4_item 43 = .ok (.ldc2_w 286, 3) := by decide +kernel
theorem dX4_item_46 : decode cX4_item 46 = .ok (.lcmp, 1) := by decide +kernel
theorem dX4_item_47 : decode cX4_item 47 = .ok (.ifCond .ne 12, 3) := by decide +kernel
theorem dX4_item_50 : decode cX4_item 50 = .ok (.aload_n 0, 1) := by decide +kernel
theorem dX4_item_51 : decode cX4_item 51 = .ok (.iload 4, 2) := by decide +kernel
theorem dX4_item_53 : decode cX4_item 53 = .ok (.invokevirtual 288, 3) := by decide +kernel
theorem dX4_item_56 : decode cX4_item 56 = .ok (.goto 53, 3) := by decide +kernel
theorem dX4_item_59 : decode cX4_item 59 = .ok (.aload_n 0, 1) := by decide +kernel
theorem dX4_item_60 : decode cX4_item 60 = .ok (.lload_n 2, 1) := by decide +kernel
theorem dX4_item_61 : decode cX4_item 61 = .ok (.ldc2_w 291, 3) := by decide +kernel
theorem dX4_item_64 : decode cX4_item 64 = .ok (.lcmp, 1) := by decide +kernel
theorem dX4_item_65 : decode cX4_item 65 = .ok (.ifCond .ne 7, 3) := by decide +kernel
theorem dX4_item_68 : decode cX4_item 68 = .ok (.iconst 1, 1) := by decide +kernel
theorem dX4_item_69 : decode cX4_item 69 = .ok (.goto 4, 3) := by decide +kernel
theorem dX4_item_72 : decode cX4_item 72 = .ok (.iconst 0, 1) := by decide +kernel
theorem dX4_item_73 : decode cX4_item 73 = .ok (.invokevirtual 243, 3) := by decide +kernel
theorem dX4_item_76 : decode cX4_item 76 = .ok (.aload_n 0, 1) := by decide +kernel
theorem dX4_item_77 : decode cX4_item 77 = .ok (.iconst 0, 1) := by decide +kernel
theorem dX4_item_78 : decode cX4_item 78 = .ok (.bipush 35, 2) := by decide +kernel
theorem dX4_item_80 : decode cX4_item 80 = .ok (.invokevirtual 263, 3) := by decide +kernel
theorem dX4_item_83 : decode cX4_item 83 = .ok (.aload_n 0, 1) := by decide +kernel
theorem dX4_item_84 : decode cX4_item 84 = .ok (.getfield 7, 3) := by decide +kernel
theorem dX4_item_87 : decode cX4_item 87 = .ok (.iconst 3, 1) := by decide +kernel
theorem dX4_item_88 : decode cX4_item 88 = .ok (.aload_n 0, 1) := by decide +kernel
theorem dX4_item_89 : decode cX4_item 89 = .ok (.getfield 229, 3) := by decide +kernel
theorem dX4_item_92 : decode cX4_item 92 = .ok (.ifCond .eq 12, 3) := by decide +kernel
theorem dX4_item_95 : decode cX4_item 95 = .ok (.aload_n 0, 1) := by decide +kernel
theorem dX4_item_96 : decode cX4_item 96 = .ok (.getfield 7, 3) := by decide +kernel
theorem dX4_item_99 : decode cX4_item 99 = .ok (.iconst 3, 1) := by decide +kernel
theorem dX4_item_100 : decode cX4_item 100 = .ok (.iaload, 1) := by decide +kernel
theorem dX4_item_101 : decode cX4_item 101 = .ok (.goto 7, 3) := by decide +kernel
theorem dX4_item_104 : decode cX4_item 104 = .ok (.aload_n 0, 1) := by decide +kernel
theorem dX4_item_105 : decode cX4_item 105 = .ok (.getfield 240, 3) := by decide +kernel
theorem dX4_item_108 : decode cX4_item 108 = .ok (.iastore, 1) := by decide +kernel
theorem dX4_item_109 : decode cX4_item 109 = .ok (.return_, 1) := by decide +kernel
theorem dX4_moor_0 : decode cX4_moor 0 = .ok (.aload_n 0, 1) := by decide +kernel
theorem dX4_moor_1 : decode cX4_moor 1 = .ok (.invokevirtual 293, 3) := by decide +kernel
theorem dX4_moor_4 : decode cX4_moor 4 = .ok (.aload_n 0, 1) := by decide +kernel
theorem dX4_moor_5 : decode cX4_moor 5 = .ok (.iconst 0, 1) := by decide +kernel
theorem dX4_moor_6 : decode cX4_moor 6 = .ok (.putfield 229, 3) := by decide +kernel
theorem dX4_moor_9 : decode cX4_moor 9 = .ok (.aload_n 0, 1) := by decide +kernel
theorem dX4_moor_10 : decode cX4_moor 10 = .ok (.iconst 0, 1) := by decide +kernel
theorem dX4_moor_11 : decode cX4_moor 11 = .ok (.putfield 214, 3) := by decide +kernel
theorem dX4_moor_14 : decode cX4_moor 14 = .ok (.aload_n 0, 1) := by decide +kernel
theorem dX4_moor_15 : decode cX4_moor 15 = .ok (.invokevirtual 233, 3) := by decide +kernel
theorem dX4_moor_18 : decode cX4_moor 18 = .ok (.iconst 1, 1) := by decide +kernel
theorem dX4_moor_19 : decode cX4_moor 19 = .ok (.istore_n 1, 1) := by decide +kernel
theorem dX4_moor_20 : decode cX4_moor 20 = .ok (.aload_n 0, 1) := by decide +kernel
theorem dX4_moor_21 : decode cX4_moor 21 = .ok (.invokevirtual 296, 3) := by decide +kernel
theorem dX4_moor_24 : decode cX4_moor 24 = .ok (.aload_n 0, 1) := by decide +kernel
theorem dX4_moor_25 : decode cX4_moor 25 = .ok (.getfield 229, 3) := by decide +kernel
theorem dX4_moor_28 : decode cX4_moor 28 = .ok (.ifCond .ne 31, 3) := by decide +kernel
theorem dX4_moor_31 : decode cX4_moor 31 = .ok (.aload_n 0, 1) := by decide +kernel
theorem dX4_moor_32 : decode cX4_moor 32 = .ok (.aload_n 0, 1) := by decide +kernel
theorem dX4_moor_33 : decode cX4_moor 33 = .ok (.getfield 217, 3) := by decide +kernel
theorem dX4_moor_36 : decode cX4_moor 36 = .ok (.invokevirtual 220, 3) := by decide +kernel
theorem dX4_moor_39 : decode cX4_moor 39 = .ok (.bipush 59, 2) := by decide +kernel
theorem dX4_moor_41 : decode cX4_moor 41 = .ok (.if_icmp .ne 18, 3) := by decide +kernel
theorem dX4_moor_44 : decode cX4_moor 44 = .ok (.aload_n 0, 1) := by decide +kernel
theorem dX4_moor_45 : decode cX4_moor 45 = .ok (.iconst 1, 1) := by decide +kernel
theorem dX4_moor_46 : decode cX4_moor 46 = .ok (.invokevirtual 243, 3) := by decide +kernel
theorem dX4_moor_49 : decode cX4_moor 49 = .ok (.aload_n 0, 1) := by decide +kernel
theorem dX4_moor_50 : decode cX4_moor 50 = .ok (.invokevirtual 296, 3) := by decide +kernel
theorem dX4_moor_53 : decode cX4_moor 53 = .ok (.iinc 1 1, 3) := by decide +kernel
theorem dX4_moor_56 : decode cX4_moor 56 = .ok (.goto (-32), 3) := by decide +kernel
theorem dX4_moor_59 : decode cX4_moor 59 = .ok (.aload_n 0, 1) := by decide +kernel
theorem dX4_moor_60 : decode cX4_moor 60 = .ok (.aload_n 0, 1) := by decide +kernel
theorem dX4_moor_61 : decode cX4_moor 61 = .ok (.getfield 229, 3) := by decide +kernel
theorem dX4_moor_64 : decode cX4_moor 64 = .ok (.ifCond .ne 14, 3) := by decide +kernel
theorem dX4_moor_67 : decode cX4_moor 67 = .ok (.aload_n 0, 1) := by decide +kernel
theorem dX4_moor_68 : decode cX4_moor 68 = .ok (.getfield 217, 3) := by decide +kernel
theorem dX4_moor_71 : decode cX4_moor 71 = .ok (.aload_n 0, 1) := by decide +kernel
theorem dX4_moor_72 : decode cX4_moor 72 = .ok (.getfield 203, 3) := by decide +kernel
theorem dX4_moor_75 : decode cX4_moor 75 = .ok (.if_icmp .ge 7, 3) := by decide +kernel
theorem dX4_moor_78 : decode cX4_moor 78 = .ok (.iconst 1, 1) := by decide +kernel
theorem dX4_moor_79 : decode cX4_moor 79 = .ok (.goto 4, 3) := by decide +kernel
theorem dX4_moor_82 : decode cX4_moor 82 = .ok (.iconst 0, 1) := by decide +kernel
theorem dX4_moor_83 : decode cX4_moor 83 = .ok (.putfield 229, 3) := by decide +kernel
theorem dX4_moor_86 : decode cX4_moor 86 = .ok (.aload_n 0, 1) := by decide +kernel
theorem dX4_moor_87 : decode cX4_moor 87 = .ok (.getfield 229, 3) := by decide +kernel
theorem dX4_moor_90 : decode cX4_moor 90 = .ok (.ifCond .eq 7, 3) := by decide +kernel
theorem dX4_moor_93 : decode cX4_moor 93 = .ok (.aload_n 0, 1) := by decide +kernel
theorem dX4_moor_94 : decode cX4_moor 94 = .ok (.invokevirtual 299, 3) := by decide +kernel
theorem dX4_moor_97 : decode cX4_moor 97 = .ok (.aload_n 0, 1) := by decide +kernel
theorem dX4_moor_98 : decode cX4_moor 98 = .ok (.iconst 0, 1) := by decide +kernel
theorem dX4_moor_99 : decode cX4_moor 99 = .ok (.putfield 203, 3) := by decide +kernel
theorem dX4_moor_102 : decode cX4_moor 102 = .ok (.aload_n 0, 1) := by decide +kernel
theorem dX4_moor_103 : decode cX4_moor 103 = .ok (.getfield 229, 3) := by decide +kernel
theorem dX4_moor_106 : decode cX4_moor 106 = .ok (.ifCond .eq 12, 3) := by decide +kernel
theorem dX4_moor_109 : decode cX4_moor 109 = .ok (.iconst (-1), 1) := by decide +kernel
theorem dX4_moor_110 : decode cX4_moor 110 = .ok (.aload_n 0, 1) := by decide +kernel
theorem dX4_moor_111 : decode cX4_moor 111 = .ok (.getfield 217, 3) := by decide +kernel
theorem dX4_moor_114 : decode cX4_moor 114 = .ok (.isub, 1) := by decide +kernel
theorem dX4_moor_115 : decode cX4_moor 115 = .ok (.goto 4, 3) := by decide +kernel
theorem dX4_moor_118 : decode cX4_moor 118 = .ok (.iload_n 1, 1) := by decide +kernel
theorem dX4_moor_119 : decode cX4_moor 119 = .ok (.ireturn, 1) := by decide +kernel
theorem dX4_isOne_0 : decode cX4_isOne 0 = .ok (.iload_n 0, 1) := by decide +kernel
theorem dX4_isOne_1 : decode cX4_isOne 1 = .ok (.i2l, 1) := by decide +kernel
theorem dX4_isOne_2 : decode cX4_isOne 2 = .ok (.lconst 0, 1) := by decide +kernel
theorem dX4_isOne_3 : decode cX4_isOne 3 = .ok (.ldc2_w 91, 3) := by decide +kernel
theorem dX4_isOne_6 : decode cX4_isOne 6 = .ok (.invokestatic 44, 3) := by decide +kernel
theorem dX4_isOne_9 : decode cX4_isOne 9 = .ok (.ireturn, 1) := by decide +kernel
theorem dX4_sheet_0 : decode cX4_sheet 0 = .ok (.iload_n 1, 1) := by decide +kernel
theorem dX4_sheet_1 : decode cX4_sheet 1 = .ok (.invokestatic 302, 3) := by decide +kernel
theorem dX4_sheet_4 : decode cX4_sheet 4 = .ok (.ifCond .eq 25, 3) := by decide +kernel
theorem dX4_sheet_7 : decode cX4_sheet 7 = .ok (.iload_n 2, 1) := by decide +kernel
theorem dX4_sheet_8 : decode cX4_sheet 8 = .ok (.ifCond .eq 28, 3) := by decide +kernel
theorem dX4_sheet_11 : decode cX4_sheet 11 = .ok (.iload_n 2, 1) := by decide +kernel
theorem dX4_sheet_12 : decode cX4_sheet 12 = .ok (.bipush 8, 2) := by decide +kernel
theorem dX4_sheet_14 : decode cX4_sheet 14 = .ok (.if_icmp .eq 22, 3) := by decide +kernel
theorem dX4_sheet_17 : decode cX4_sheet 17 = .ok (.iload_n 2, 1) := by decide +kernel
theorem dX4_sheet_18 : decode cX4_sheet 18 = .ok (.bipush 16, 2) := by decide +kernel
theorem dX4_sheet_20 : decode cX4_sheet 20 = .ok (.if_icmp .eq 16, 3) := by decide +kernel
theorem dX4_sheet_23 : decode cX4_sheet 23 = .ok (.iload_n 2, 1) := by decide +kernel
theorem dX4_sheet_24 : decode cX4_sheet 24 = .ok (.bipush 64, 2) := by decide +kernel
theorem dX4_sheet_26 : decode cX4_sheet 26 = .ok (.if_icmp .eq 10, 3) := by decide +kernel
theorem dX4_sheet_29 : decode cX4_sheet 29 = .ok (.aload_n 0, 1) := by decide +kernel
theorem dX4_sheet_30 : decode cX4_sheet 30 = .ok (.ldc 41, 2) := by decide +kernel
theorem dX4_sheet_32 : decode cX4_sheet 32 = .ok (.invokevirtual 66, 3) := by decide +kernel
theorem dX4_sheet_35 : decode cX4_sheet 35 = .ok (.ireturn, 1) := by decide +kernel
theorem dX4_sheet_36 : decode cX4_sheet 36 = .ok (.iload_n 3, 1) := by decide +kernel
theorem dX4_sheet_37 : decode cX4_sheet 37 = .ok (.ifCond .ge 11, 3) := by decide +kernel
theorem dX4_sheet_40 : decode cX4_sheet 40 = .ok (.aload_n 0, 1) := by decide +kernel
theorem dX4_sheet_41 : decode cX4_sheet 41 = .ok (.ldc_w 305, 3) := by decide +kernel
theorem dX4_sheet_44 : decode cX4_sheet 44 = .ok (.invokevirtual 66, 3) := by decide +kernel
theorem dX4_sheet_47 : decode cX4_sheet 47 = .ok (.ireturn, 1) := by decide +kernel
theorem dX4_sheet_48 : decode cX4_sheet 48 = .ok (.iload_n 3, 1) := by decide +kernel
theorem dX4_sheet_49 : decode cX4_sheet 49 = .ok (.bipush 40, 2) := by decide +kernel
theorem dX4_sheet_51 : decode cX4_sheet 51 = .ok (.if_icmp .le 10, 3) := by decide +kernel
theorem dX4_sheet_54 : decode cX4_sheet 54 = .ok (.aload_n 0, 1) := by decide +kernel
theorem dX4_sheet_55 : decode cX4_sheet 55 = .ok (.ldc 41, 2) := by decide +kernel
theorem dX4_sheet_57 : decode cX4_sheet 57 = .ok (.invokevirtual 66, 3) := by decide +kernel
theorem dX4_sheet_60 : decode cX4_sheet 60 = .ok (.ireturn, 1) := by decide +kernel
theorem dX4_sheet_61 : decode cX4_sheet 61 = .ok (.aload_n 0, 1) := by decide +kernel
theorem dX4_sheet_62 : decode cX4_sheet 62 = .ok (.getfield 28, 3) := by decide +kernel
theorem dX4_sheet_65 : decode cX4_sheet 65 = .ok (.iload_n 1, 1) := by decide +kernel
theorem dX4_sheet_66 : decode cX4_sheet 66 = .ok (.iload_n 2, 1) := by decide +kernel
theorem dX4_sheet_67 : decode cX4_sheet 67 = .ok (.iastore, 1) := by decide +kernel
theorem dX4_sheet_68 : decode cX4_sheet 68 = .ok (.aload_n 0, 1) := by decide +kernel
theorem dX4_sheet_69 : decode cX4_sheet 69 = .ok (.getfield 31, 3) := by decide +kernel
theorem dX4_sheet_72 : decode cX4_sheet 72 = .ok (.iload_n 1, 1) := by decide +kernel
theorem dX4_sheet_73 : decode cX4_sheet 73 = .ok (.iload_n 2, 1) := by decide +kernel
theorem dX4_sheet_74 : decode cX4_sheet 74 = .ok (.ifCond .ne 7, 3) := by decide +kernel
theorem dX4_sheet_77 : decode cX4_sheet 77 = .ok (.iconst 0, 1) := by decide +kernel
theorem dX4_sheet_78 : decode cX4_sheet 78 = .ok (.goto 4, 3) := by decide +kernel
theorem dX4_sheet_81 : decode cX4_sheet 81 = .ok (.iload_n 3, 1) := by decide +kernel
theorem dX4_sheet_82 : decode cX4_sheet 82 = .ok (.iastore, 1) := by decide +kernel
theorem dX4_sheet_83 : decode cX4_sheet 83 = .ok (.iconst 0, 1) := by decide +kernel
theorem dX4_sheet_84 : decode cX4_sheet 84 = .ok (.istore 4, 2) := by decide +kernel
theorem dX4_sheet_86 : decode cX4_sheet 86 = .ok (.iload 4, 2) := by decide +kernel
theorem dX4_sheet_88 : decode cX4_sheet 88 = .ok (.bipush 40, 2) := by decide +kernel
theorem dX4_sheet_90 : decode cX4_sheet 90 = .ok (.if_icmp .ge 22, 3) := by decide +kernel
theorem dX4_sheet_93 : decode cX4_sheet 93 = .ok (.aload_n 0, 1) := by decide +kernel
theorem dX4_sheet_94 : decode cX4_sheet 94 = .ok (.getfield 34, 3) := by decide +kernel
theorem dX4_sheet_97 : decode cX4_sheet 97 = .ok (.bipush 40, 2) := by decide +kernel
theorem dX4_sheet_99 : decode cX4_sheet 99 = .ok (.iload_n 1, 1) := by decide +kernel
theorem dX4_sheet_100 : decode cX4_sheet 100 = .ok (.imul, 1) := by decide +kernel
theorem dX4_sheet_101 : decode cX4_sheet 101 = .ok (.iload 4, 2) := by decide +kernel
theorem dX4_sheet_103 : decode cX4_sheet 103 = .ok (.iadd, 1) := by decide +kernel
theorem dX4_sheet_104 : decode cX4_sheet 104 = .ok (.lconst 0, 1) := by decide +kernel
theorem dX4_sheet_105 : decode cX4_sheet 105 = .ok (.lastore, 1) := by decide +kernel
theorem dX4_sheet_106 : decode cX4_sheet 106 = .ok (.iinc 4 1, 3) := by decide +kernel
theorem dX4_sheet_109 : decode cX4_sheet 109 = .ok (.goto (-23), 3) := by decide +kernel
theorem dX4_sheet_112 : decode cX4_sheet 112 = .ok (.aload_n 0, 1) := by decide +kernel
theorem dX4_sheet_113 : decode cX4_sheet 113 = .ok (.getfield 31, 3) := by decide +kernel
theorem dX4_sheet_116 : decode cX4_sheet 116 = .ok (.iload_n 1, 1) := by decide +kernel
theorem dX4_sheet_117 : decode cX4_sheet 117 = .ok (.iaload, 1) := by decide +kernel
theorem dX4_sheet_118 : decode cX4_sheet 118 = .ok (.ireturn, 1) := by decide +kernel
theorem dX4_narrowed_0 : decode cX4_narrowed 0 = .ok (.iload_n 0, 1) := by decide +kernel
theorem dX4_narrowed_1 : decode cX4_narrowed 1 = .ok (.bipush 8, 2) := by decide +kernel
theorem dX4_narrowed_3 : decode cX4_narrowed 3 = .ok (.if_icmp .ne 10, 3) := by decide +kernel
theorem dX4_narrowed_6 : decode cX4_narrowed 6 = .ok (.lload_n 1, 1) := by decide +kernel
theorem dX4_narrowed_7 : decode cX4_narrowed 7 = .ok (.l2i, 1) := by decide +kernel
theorem dX4_narrowed_8 : decode cX4_narrowed 8 = .ok (.i2b, 1) := by decide +kernel
theorem dX4_narrowed_9 : decode cX4_narrowed 9 = .ok (.i2l, 1) := by decide +kernel
theorem dX4_narrowed_10 : decode cX4_narrowed 10 = .ok (.goto 17, 3) := by decide +kernel
theorem dX4_narrowed_13 : decode cX4_narrowed 13 = .ok (.iload_n 0, 1) := by decide +kernel
theorem dX4_narrowed_14 : decode cX4_narrowed 14 = .ok (.bipush 16, 2) := by decide +kernel
theorem dX4_narrowed_16 : decode cX4_narrowed 16 = .ok (.if_icmp .ne 10, 3) := by decide +kernel
theorem dX4_narrowed_19 : decode cX4_narrowed 19 = .ok (.lload_n 1, 1) := by decide +kernel
theorem dX4_narrowed_20 : decode cX4_narrowed 20 = .ok (.l2i, 1) := by decide +kernel
theorem dX4_narrowed_21 : decode cX4_narrowed 21 = .ok (.i2s, 1) := by decide +kernel
theorem dX4_narrowed_22 : decode cX4_narrowed 22 = .ok (.i2l, 1) := by decide +kernel
theorem dX4_narrowed_23 : decode cX4_narrowed 23 = .ok (.goto 4, 3) := by decide +kernel
theorem dX4_narrowed_26 : decode cX4_narrowed 26 = .ok (.lload_n 1, 1) := by decide +kernel
theorem dX4_narrowed_27 : decode cX4_narrowed 27 = .ok (.lreturn, 1) := by decide +kernel
theorem dX4_wrongSheet_0 : decode cX4_wrongSheet 0 = .ok (.iload_n 1, 1) := by decide +kernel
theorem dX4_wrongSheet_1 : decode cX4_wrongSheet 1 = .ok (.invokestatic 302, 3) := by decide +kernel
theorem dX4_wrongSheet_4 : decode cX4_wrongSheet 4 = .ok (.ifCond .ne 8, 3) := by decide +kernel
theorem dX4_wrongSheet_7 : decode cX4_wrongSheet 7 = .ok (.ldc 41, 2) := by decide +kernel
theorem dX4_wrongSheet_9 : decode cX4_wrongSheet 9 = .ok (.goto 19, 3) := by decide +kernel
theorem dX4_wrongSheet_12 : decode cX4_wrongSheet 12 = .ok (.aload_n 0, 1) := by decide +kernel
theorem dX4_wrongSheet_13 : decode cX4_wrongSheet 13 = .ok (.getfield 28, 3) := by decide +kernel
theorem dX4_wrongSheet_16 : decode cX4_wrongSheet 16 = .ok (.iload_n 1, 1) := by decide +kernel
theorem dX4_wrongSheet_17 : decode cX4_wrongSheet 17 = .ok (.iaload, 1) := by decide +kernel
theorem dX4_wrongSheet_18 : decode cX4_wrongSheet 18 = .ok (.ifCond .ne 9, 3) := by decide +kernel
theorem dX4_wrongSheet_21 : decode cX4_wrongSheet 21 = .ok (.ldc_w 306, 3) := by decide +kernel
theorem dX4_wrongSheet_24 : decode cX4_wrongSheet 24 = .ok (.goto 4, 3) := by decide +kernel
theorem dX4_wrongSheet_27 : decode cX4_wrongSheet 27 = .ok (.iconst 0, 1) := by decide +kernel
theorem dX4_wrongSheet_28 : decode cX4_wrongSheet 28 = .ok (.ireturn, 1) := by decide +kernel
theorem dX4_write_0 : decode cX4_write 0 = .ok (.aload_n 0, 1) := by decide +kernel
theorem dX4_write_1 : decode cX4_write 1 = .ok (.iload_n 1, 1) := by decide +kernel
theorem dX4_write_2 : decode cX4_write 2 = .ok (.invokevirtual 307, 3) := by decide +kernel
theorem dX4_write_5 : decode cX4_write 5 = .ok (.istore 5, 2) := by decide +kernel
theorem dX4_write_7 : decode cX4_write 7 = .ok (.iload 5, 2) := by decide +kernel
theorem dX4_write_9 : decode cX4_write 9 = .ok (.ifCond .eq 11, 3) := by decide +kernel
theorem dX4_write_12 : decode cX4_write 12 = .ok (.aload_n 0, 1) := by decide +kernel
theorem dX4_write_13 : decode cX4_write 13 = .ok (.iload 5, 2) := by decide +kernel
theorem dX4_write_15 : decode cX4_write 15 = .ok (.invokevirtual 66, 3) := by decide +kernel
theorem dX4_write_18 : decode cX4_write 18 = .ok (.i2l, 1) := by decide +kernel
theorem dX4_write_19 : decode cX4_write 19 = .ok (.lreturn, 1) := by decide +kernel
theorem dX4_write_20 : decode cX4_write 20 = .ok (.iload_n 2, 1) := by decide +kernel
theorem dX4_write_21 : decode cX4_write 21 = .ok (.i2l, 1) := by decide +kernel
theorem dX4_write_22 : decode cX4_write 22 = .ok (.lconst 0, 1) := by decide +kernel
theorem dX4_write_23 : decode cX4_write 23 = .ok (.aload_n 0, 1) := by decide +kernel
theorem dX4_write_24 : decode cX4_write 24 = .ok (.getfield 31, 3) := by decide +kernel
theorem dX4_write_27 : decode cX4_write 27 = .ok (.iload_n 1, 1) := by decide +kernel
theorem dX4_write_28 : decode cX4_write 28 = .ok (.iaload, 1) := by decide +kernel
theorem dX4_write_29 : decode cX4_write 29 = .ok (.iconst 1, 1) := by decide +kernel
theorem dX4_write_30 : decode cX4_write 30 = .ok (.isub, 1) := by decide +kernel
theorem dX4_write_31 : decode cX4_write 31 = .ok (.i2l, 1) := by decide +kernel
theorem dX4_write_32 : decode cX4_write 32 = .ok (.invokestatic 44, 3) := by decide +kernel
theorem dX4_write_35 : decode cX4_write 35 = .ok (.ifCond .ne 11, 3) := by decide +kernel
theorem dX4_write_38 : decode cX4_write 38 = .ok (.aload_n 0, 1) := by decide +kernel
theorem dX4_write_39 : decode cX4_write 39 = .ok (.ldc 41, 2) := by decide +kernel
theorem dX4_write_41 : decode cX4_write 41 = .ok (.invokevirtual 66, 3) := by decide +kernel
theorem dX4_write_44 : decode cX4_write 44 = .ok (.i2l, 1) := by decide +kernel
theorem dX4_write_45 : decode cX4_write 45 = .ok (.lreturn, 1) := by decide +kernel
theorem dX4_write_46 : decode cX4_write 46 = .ok (.aload_n 0, 1) := by decide +kernel
theorem dX4_write_47 : decode cX4_write 47 = .ok (.getfield 34, 3) := by decide +kernel
theorem dX4_write_50 : decode cX4_write 50 = .ok (.bipush 40, 2) := by decide +kernel
theorem dX4_write_52 : decode cX4_write 52 = .ok (.iload_n 1, 1) := by decide +kernel
theorem dX4_write_53 : decode cX4_write 53 = .ok (.imul, 1) := by decide +kernel
theorem dX4_write_54 : decode cX4_write 54 = .ok (.iload_n 2, 1) := by decide +kernel
theorem dX4_write_55 : decode cX4_write 55 = .ok (.iadd, 1) := by decide +kernel
theorem dX4_write_56 : decode cX4_write 56 = .ok (.laload, 1) := by decide +kernel
theorem dX4_write_57 : decode cX4_write 57 = .ok (.lstore 6, 2) := by decide +kernel
theorem dX4_write_59 : decode cX4_write 59 = .ok (.aload_n 0, 1) := by decide +kernel
theorem dX4_write_60 : decode cX4_write 60 = .ok (.getfield 34, 3) := by decide +kernel
theorem dX4_write_63 : decode cX4_write 63 = .ok (.bipush 40, 2) := by decide +kernel
theorem dX4_write_65 : decode cX4_write 65 = .ok (.iload_n 1, 1) := by decide +kernel
theorem dX4_write_66 : decode cX4_write 66 = .ok (.imul, 1) := by decide +kernel
theorem dX4_write_67 : decode cX4_write 67 = .ok (.iload_n 2, 1) := by decide +kernel
theorem dX4_write_68 : decode cX4_write 68 = .ok (.iadd, 1) := by decide +kernel
theorem dX4_write_69 : decode cX4_write 69 = .ok (.aload_n 0, 1) := by decide +kernel
theorem dX4_write_70 : decode cX4_write 70 = .ok (.getfield 28, 3) := by decide +kernel
theorem dX4_write_73 : decode cX4_write 73 = .ok (.iload_n 1, 1) := by decide +kernel
theorem dX4_write_74 : decode cX4_write 74 = .ok (.iaload, 1) := by decide +kernel
theorem dX4_write_75 : decode cX4_write 75 = .ok (.lload_n 3, 1) := by decide +kernel
theorem dX4_write_76 : decode cX4_write 76 = .ok (.invokestatic 310, 3) := by decide +kernel
theorem dX4_write_79 : decode cX4_write 79 = .ok (.lastore, 1) := by decide +kernel
theorem dX4_write_80 : decode cX4_write 80 = .ok (.lload 6, 2) := by decide +kernel
theorem dX4_write_82 : decode cX4_write 82 = .ok (.lreturn, 1) := by decide +kernel
theorem dX4_copy_0 : decode cX4_copy 0 = .ok (.iload_n 1, 1) := by decide +kernel
theorem dX4_copy_1 : decode cX4_copy 1 = .ok (.invokestatic 302, 3) := by decide +kernel
theorem dX4_copy_4 : decode cX4_copy 4 = .ok (.ifCond .eq 10, 3) := by decide +kernel
theorem dX4_copy_7 : decode cX4_copy 7 = .ok (.iload_n 3, 1) := by decide +kernel
theorem dX4_copy_8 : decode cX4_copy 8 = .ok (.invokestatic 302, 3) := by decide +kernel
theorem dX4_copy_11 : decode cX4_copy 11 = .ok (.ifCond .ne 10, 3) := by decide +kernel
theorem dX4_copy_14 : decode cX4_copy 14 = .ok (.aload_n 0, 1) := by decide +kernel
theorem dX4_copy_15 : decode cX4_copy 15 = .ok (.ldc 41, 2) := by decide +kernel
theorem dX4_copy_17 : decode cX4_copy 17 = .ok (.invokevirtual 66, 3) := by decide +kernel
theorem dX4_copy_20 : decode cX4_copy 20 = .ok (.ireturn, 1) := by decide +kernel
theorem dX4_copy_21 : decode cX4_copy 21 = .ok (.aload_n 0, 1) := by decide +kernel
theorem dX4_copy_22 : decode cX4_copy 22 = .ok (.getfield 28, 3) := by decide +kernel
theorem dX4_copy_25 : decode cX4_copy 25 = .ok (.iload_n 1, 1) := by decide +kernel
theorem dX4_copy_26 : decode cX4_copy 26 = .ok (.iaload, 1) := by decide +kernel
theorem dX4_copy_27 : decode cX4_copy 27 = .ok (.ifCond .eq 12, 3) := by decide +kernel
theorem dX4_copy_30 : decode cX4_copy 30 = .ok (.aload_n 0, 1) := by decide +kernel
theorem dX4_copy_31 : decode cX4_copy 31 = .ok (.getfield 28, 3) := by decide +kernel
theorem dX4_copy_34 : decode cX4_copy 34 = .ok (.iload_n 3, 1) := by decide +kernel
theorem dX4_copy_35 : decode cX4_copy 35 = .ok (.iaload, 1) := by decide +kernel
theorem dX4_copy_36 : decode cX4_copy 36 = .ok (.ifCond .ne 11, 3) := by decide +kernel
theorem dX4_copy_39 : decode cX4_copy 39 = .ok (.aload_n 0, 1) := by decide +kernel
theorem dX4_copy_40 : decode cX4_copy 40 = .ok (.ldc_w 306, 3) := by decide +kernel
theorem dX4_copy_43 : decode cX4_copy 43 = .ok (.invokevirtual 66, 3) := by decide +kernel
theorem dX4_copy_46 : decode cX4_copy 46 = .ok (.ireturn, 1) := by decide +kernel
theorem dX4_copy_47 : decode cX4_copy 47 = .ok (.aload_n 0, 1) := by decide +kernel
theorem dX4_copy_48 : decode cX4_copy 48 = .ok (.getfield 28, 3) := by decide +kernel
theorem dX4_copy_51 : decode cX4_copy 51 = .ok (.iload_n 1, 1) := by decide +kernel
theorem dX4_copy_52 : decode cX4_copy 52 = .ok (.iaload, 1) := by decide +kernel
theorem dX4_copy_53 : decode cX4_copy 53 = .ok (.aload_n 0, 1) := by decide +kernel
theorem dX4_copy_54 : decode cX4_copy 54 = .ok (.getfield 28, 3) := by decide +kernel
theorem dX4_copy_57 : decode cX4_copy 57 = .ok (.iload_n 3, 1) := by decide +kernel
theorem dX4_copy_58 : decode cX4_copy 58 = .ok (.iaload, 1) := by decide +kernel
theorem dX4_copy_59 : decode cX4_copy 59 = .ok (.if_icmp .eq 10, 3) := by decide +kernel
theorem dX4_copy_62 : decode cX4_copy 62 = .ok (.aload_n 0, 1) := by decide +kernel
theorem dX4_copy_63 : decode cX4_copy 63 = .ok (.ldc 109, 2) := by decide +kernel
theorem dX4_copy_65 : decode cX4_copy 65 = .ok (.invokevirtual 66, 3) := by decide +kernel
theorem dX4_copy_68 : decode cX4_copy 68 = .ok (.ireturn, 1) := by decide +kernel
theorem dX4_copy_69 : decode cX4_copy 69 = .ok (.iload_n 2, 1) := by decide +kernel
theorem dX4_copy_70 : decode cX4_copy 70 = .ok (.ifCond .lt 40, 3) := by decide +kernel
theorem dX4_copy_73 : decode cX4_copy 73 = .ok (.iload 4, 2) := by decide +kernel
theorem dX4_copy_75 : decode cX4_copy 75 = .ok (.ifCond .lt 35, 3) := by decide +kernel
theorem dX4_copy_78 : decode cX4_copy 78 = .ok (.iload 5, 2) := by decide +kernel
theorem dX4_copy_80 : decode cX4_copy 80 = .ok (.ifCond .lt 30, 3) := by decide +kernel
theorem dX4_copy_83 : decode cX4_copy 83 = .ok (.iload 5, 2) := by decide +kernel
theorem dX4_copy_85 : decode cX4_copy 85 = .ok (.aload_n 0, 1) := by decide +kernel
theorem dX4_copy_86 : decode cX4_copy 86 = .ok (.getfield 31, 3) := by decide +kernel
theorem dX4_copy_89 : decode cX4_copy 89 = .ok (.iload_n 1, 1) := by decide +kernel
theorem dX4_copy_90 : decode cX4_copy 90 = .ok (.iaload, 1) := by decide +kernel
theorem dX4_copy_91 : decode cX4_copy 91 = .ok (.iload_n 2, 1) := by decide +kernel
theorem dX4_copy_92 : decode cX4_copy 92 = .ok (.isub, 1) := by decide +kernel
theorem dX4_copy_93 : decode cX4_copy 93 = .ok (.if_icmp .gt 17, 3) := by decide +kernel
theorem dX4_copy_96 : decode cX4_copy 96 = .ok (.iload 5, 2) := by decide +kernel
theorem dX4_copy_98 : decode cX4_copy 98 = .ok (.aload_n 0, 1) := by decide +kernel
theorem dX4_copy_99 : decode cX4_copy 99 = .ok (.getfield 31, 3) := by decide +kernel
theorem dX4_copy_102 : decode cX4_copy 102 = .ok (.iload_n 3, 1) := by decide +kernel
theorem dX4_copy_103 : decode cX4_copy 103 = .ok (.iaload, 1) := by decide +kernel
theorem dX4_copy_104 : decode cX4_copy 104 = .ok (.iload 4, 2) := by decide +kernel
theorem dX4_copy_106 : decode cX4_copy 106 = .ok (.isub, 1) := by decide +kernel
theorem dX4_copy_107 : decode cX4_copy 107 = .ok (.if_icmp .le 10, 3) := by decide +kernel
theorem dX4_copy_110 : decode cX4_copy 110 = .ok (.aload_n 0, 1) := by decide +kernel
theorem dX4_copy_111 : decode cX4_copy 111 = .ok (.ldc 41, 2) := by decide +kernel
theorem dX4_copy_113 : decode cX4_copy 113 = .ok (.invokevirtual 66, 3) := by decide +kernel
theorem dX4_copy_116 : decode cX4_copy 116 = .ok (.ireturn, 1) := by decide +kernel
theorem dX4_copy_117 : decode cX4_copy 117 = .ok (.iconst 0, 1) := by decide +kernel
theorem dX4_copy_118 : decode cX4_copy 118 = .ok (.istore 6, 2) := by decide +kernel
theorem dX4_copy_120 : decode cX4_copy 120 = .ok (.iload 6, 2) := by decide +kernel
theorem dX4_copy_122 : decode cX4_copy 122 = .ok (.iload 5, 2) := by decide +kernel
theorem dX4_copy_124 : decode cX4_copy 124 = .ok (.if_icmp .ge 30, 3) := by decide +kernel
theorem dX4_copy_127 : decode cX4_copy 127 = .ok (.aload_n 0, 1) := by decide +kernel
theorem dX4_copy_128 : decode cX4_copy 128 = .ok (.getfield 38, 3) := by decide +kernel
theorem dX4_copy_131 : decode cX4_copy 131 = .ok (.iload 6, 2) := by decide +kernel
theorem dX4_copy_133 : decode cX4_copy 133 = .ok (.aload_n 0, 1) := by decide +kernel
theorem dX4_copy_134 : decode cX4_copy 134 = .ok (.getfield 34, 3) := by decide +kernel
theorem dX4_copy_137 : decode cX4_copy 137 = .ok (.bipush 40, 2) := by decide +kernel
theorem dX4_copy_139 : decode cX4_copy 139 = .ok (.iload_n 1, 1) := by decide +kernel
theorem dX4_copy_140 : decode cX4_copy 140 = .ok (.imul, 1) := by decide +kernel
theorem dX4_copy_141 : decode cX4_copy 141 = .ok (.iload_n 2, 1) := by decide +kernel
theorem dX4_copy_142 : decode cX4_copy 142 = .ok (.iadd, 1) := by decide +kernel
theorem dX4_copy_143 : decode cX4_copy 143 = .ok (.iload 6, 2) := by decide +kernel
theorem dX4_copy_145 : decode cX4_copy 145 = .ok (.iadd, 1) := by decide +kernel
theorem dX4_copy_146 : decode cX4_copy 146 = .ok (.laload, 1) := by decide +kernel
theorem dX4_copy_147 : decode cX4_copy 147 = .ok (.lastore, 1) := by decide +kernel
theorem dX4_copy_148 : decode cX4_copy 148 = .ok (.iinc 6 1, 3) := by decide +kernel
theorem dX4_copy_151 : decode cX4_copy 151 = .ok (.goto (-31), 3) := by decide +kernel
theorem dX4_copy_154 : decode cX4_copy 154 = .ok (.iconst 0, 1) := by decide +kernel
theorem dX4_copy_155 : decode cX4_copy 155 = .ok (.istore 6, 2) := by decide +kernel
theorem dX4_copy_157 : decode cX4_copy 157 = .ok (.iload 6, 2) := by decide +kernel
theorem dX4_copy_159 : decode cX4_copy 159 = .ok (.iload 5, 2) := by decide +kernel
theorem dX4_copy_161 : decode cX4_copy 161 = .ok (.if_icmp .ge 31, 3) := by decide +kernel
theorem dX4_copy_164 : decode cX4_copy 164 = .ok (.aload_n 0, 1) := by decide +kernel
theorem dX4_copy_165 : decode cX4_copy 165 = .ok (.getfield 34, 3) := by decide +kernel
theorem dX4_copy_168 : decode cX4_copy 168 = .ok (.bipush 40, 2) := by decide +kernel
theorem dX4_copy_170 : decode cX4_copy 170 = .ok (.iload_n 3, 1) := by decide +kernel
theorem dX4_copy_171 : decode cX4_copy 171 = .ok (.imul, 1) := by decide +kernel
theorem dX4_copy_172 : decode cX4_copy 172 = .ok (.iload 4, 2) := by decide +kernel
theorem dX4_copy_174 : decode cX4_copy 174 = .ok (.iadd, 1) := by decide +kernel
theorem dX4_copy_175 : decode cX4_copy 175 = .ok (.iload 6, 2) := by decide +kernel
theorem dX4_copy_177 : decode cX4_copy 177 = .ok (.iadd, 1) := by decide +kernel
theorem dX4_copy_178 : decode cX4_copy 178 = .ok (.aload_n 0, 1) := by decide +kernel
theorem dX4_copy_179 : decode cX4_copy 179 = .ok (.getfield 38, 3) := by decide +kernel
theorem dX4_copy_182 : decode cX4_copy 182 = .ok (.iload 6, 2) := by decide +kernel
theorem dX4_copy_184 : decode cX4_copy 184 = .ok (.laload, 1) := by decide +kernel
theorem dX4_copy_185 : decode cX4_copy 185 = .ok (.lastore, 1) := by decide +kernel
theorem dX4_copy_186 : decode cX4_copy 186 = .ok (.iinc 6 1, 3) := by decide +kernel
theorem dX4_copy_189 : decode cX4_copy 189 = .ok (.goto (-32), 3) := by decide +kernel
theorem dX4_copy_192 : decode cX4_copy 192 = .ok (.iload 5, 2) := by decide +kernel
theorem dX4_copy_194 : decode cX4_copy 194 = .ok (.ireturn, 1) := by decide +kernel
theorem dX4_lays_0 : decode cX4_lays 0 = .ok (.aload_n 0, 1) := by decide +kernel
theorem dX4_lays_1 : decode cX4_lays 1 = .ok (.iload_n 1, 1) := by decide +kernel
theorem dX4_lays_2 : decode cX4_lays 2 = .ok (.invokevirtual 307, 3) := by decide +kernel
theorem dX4_lays_5 : decode cX4_lays 5 = .ok (.istore_n 2, 1) := by decide +kernel
theorem dX4_lays_6 : decode cX4_lays 6 = .ok (.iload_n 2, 1) := by decide +kernel
theorem dX4_lays_7 : decode cX4_lays 7 = .ok (.ifCond .eq 9, 3) := by decide +kernel
theorem dX4_lays_10 : decode cX4_lays 10 = .ok (.aload_n 0, 1) := by decide +kernel
theorem dX4_lays_11 : decode cX4_lays 11 = .ok (.iload_n 2, 1) := by decide +kernel
theorem dX4_lays_12 : decode cX4_lays 12 = .ok (.invokevirtual 66, 3) := by decide +kernel
theorem dX4_lays_15 : decode cX4_lays 15 = .ok (.ireturn, 1) := by decide +kernel
theorem dX4_lays_16 : decode cX4_lays 16 = .ok (.iconst 0, 1) := by decide +kernel
theorem dX4_lays_17 : decode cX4_lays 17 = .ok (.istore_n 3, 1) := by decide +kernel
theorem dX4_lays_18 : decode cX4_lays 18 = .ok (.iconst 0, 1) := by decide +kernel
theorem dX4_lays_19 : decode cX4_lays 19 = .ok (.istore 4, 2) := by decide +kernel
theorem dX4_lays_21 : decode cX4_lays 21 = .ok (.iload 4, 2) := by decide +kernel
theorem dX4_lays_23 : decode cX4_lays 23 = .ok (.aload_n 0, 1) := by decide +kernel
theorem dX4_lays_24 : decode cX4_lays 24 = .ok (.getfield 31, 3) := by decide +kernel
theorem dX4_lays_27 : decode cX4_lays 27 = .ok (.iload_n 1, 1) := by decide +kernel
theorem dX4_lays_28 : decode cX4_lays 28 = .ok (.iaload, 1) := by decide +kernel
theorem dX4_lays_29 : decode cX4_lays 29 = .ok (.if_icmp .ge 93, 3) := by decide +kernel
theorem dX4_lays_32 : decode cX4_lays 32 = .ok (.iload 4, 2) := by decide +kernel
theorem dX4_lays_34 : decode cX4_lays 34 = .ok (.aload_n 0, 1) := by decide +kernel
theorem dX4_lays_35 : decode cX4_lays 35 = .ok (.getfield 7, 3) := by decide +kernel
theorem dX4_lays_38 : decode cX4_lays 38 = .ok (.iconst 0, 1) := by decide +kernel
theorem dX4_lays_39 : decode cX4_lays 39 = .ok (.iaload, 1) := by decide +kernel
theorem dX4_lays_40 : decode cX4_lays 40 = .ok (.if_icmp .ge 82, 3) := by decide +kernel
theorem dX4_lays_43 : decode cX4_lays 43 = .ok (.aload_n 0, 1) := by decide +kernel
theorem dX4_lays_44 : decode cX4_lays 44 = .ok (.getfield 34, 3) := by decide +kernel
theorem dX4_lays_47 : decode cX4_lays 47 = .ok (.bipush 40, 2) := by decide +kernel
theorem dX4_lays_49 : decode cX4_lays 49 = .ok (.iload_n 1, 1) := by decide +kernel
theorem dX4_lays_50 : decode cX4_lays 50 = .ok (.imul, 1) := by decide +kernel
theorem dX4_lays_51 : decode cX4_lays 51 = .ok (.iload 4, 2) := by decide +kernel
theorem dX4_lays_53 : decode cX4_lays 53 = .ok (.iadd, 1) := by decide +kernel
theorem dX4_lays_54 : decode cX4_lays 54 = .ok (.laload, 1) := by decide +kernel
theorem dX4_lays_55 : decode cX4_lays 55 = .ok (.lconst 0, 1) := by decide +kernel
theorem dX4_lays_56 : decode cX4_lays 56 = .ok (.ldc2_w 93, 3) := by decide +kernel
theorem dX4_lays_59 : decode cX4_lays 59 = .ok (.invokestatic 44, 3) := by decide +kernel
theorem dX4_lays_62 : decode cX4_lays 62 = .ok (.istore 5, 2) := by decide +kernel
theorem dX4_lays_64 : decode cX4_lays 64 = .ok (.aload_n 0, 1) := by decide +kernel
theorem dX4_lays_65 : decode cX4_lays 65 = .ok (.getfield 7, 3) := by decide +kernel
theorem dX4_lays_68 : decode cX4_lays 68 = .ok (.iload 4, 2) := by decide +kernel
theorem dX4_lays_70 : decode cX4_lays 70 = .ok (.iconst 4, 1) := by decide +kernel
theorem dX4_lays_71 : decode cX4_lays 71 = .ok (.invokestatic 54, 3) := by decide +kernel
theorem dX4_lays_74 : decode cX4_lays 74 = .ok (.iload 5, 2) := by decide +kernel
theorem dX4_lays_76 : decode cX4_lays 76 = .ok (.ifCond .eq 19, 3) := by decide +kernel
theorem dX4_lays_79 : decode cX4_lays 79 = .ok (.aload_n 0, 1) := by decide +kernel
theorem dX4_lays_80 : decode cX4_lays 80 = .ok (.getfield 34, 3) := by decide +kernel
theorem dX4_lays_83 : decode cX4_lays 83 = .ok (.bipush 40, 2) := by decide +kernel
theorem dX4_lays_85 : decode cX4_lays 85 = .ok (.iload_n 1, 1) := by decide +kernel
theorem dX4_lays_86 : decode cX4_lays 86 = .ok (.imul, 1) := by decide +kernel
theorem dX4_lays_87 : decode cX4_lays 87 = .ok (.iload 4, 2) := by decide +kernel
theorem dX4_lays_89 : decode cX4_lays 89 = .ok (.iadd, 1) := by decide +kernel
theorem dX4_lays_90 : decode cX4_lays 90 = .ok (.laload, 1) := by decide +kernel
theorem dX4_lays_91 : decode cX4_lays 91 = .ok (.l2i, 1) := by decide +kernel
theorem dX4_lays_92 : decode cX4_lays 92 = .ok (.goto 10, 3) := by decide +kernel
theorem dX4_lays_95 : decode cX4_lays 95 = .ok (.aload_n 0, 1) := by decide +kernel
theorem dX4_lays_96 : decode cX4_lays 96 = .ok (.iload 4, 2) := by decide +kernel
theorem dX4_lays_98 : decode cX4_lays 98 = .ok (.iconst 4, 1) := by decide +kernel
theorem dX4_lays_99 : decode cX4_lays 99 = .ok (.invokevirtual 58, 3) := by decide +kernel
theorem dX4_lays_102 : decode cX4_lays 102 = .ok (.iastore, 1) := by decide +kernel
theorem dX4_lays_103 : decode cX4_lays 103 = .ok (.iload_n 3, 1) := by decide +kernel
theorem dX4_lays_104 : decode cX4_lays 104 = .ok (.iload 5, 2) := by decide +kernel
theorem dX4_lays_106 : decode cX4_lays 106 = .ok (.ifCond .eq 7, 3) := by decide +kernel
theorem dX4_lays_109 : decode cX4_lays 109 = .ok (.iconst 1, 1) := by decide +kernel
theorem dX4_lays_110 : decode cX4_lays 110 = .ok (.goto 4, 3) := by decide +kernel
theorem dX4_lays_113 : decode cX4_lays 113 = .ok (.iconst 0, 1) := by decide +kernel
theorem dX4_lays_114 : decode cX4_lays 114 = .ok (.iadd, 1) := by decide +kernel
theorem dX4_lays_115 : decode cX4_lays 115 = .ok (.istore_n 3, 1) := by decide +kernel
theorem dX4_lays_116 : decode cX4_lays 116 = .ok (.iinc 4 1, 3) := by decide +kernel
theorem dX4_lays_119 : decode cX4_lays 119 = .ok (.goto (-98), 3) := by decide +kernel
theorem dX4_lays_122 : decode cX4_lays 122 = .ok (.iload_n 3, 1) := by decide +kernel
theorem dX4_lays_123 : decode cX4_lays 123 = .ok (.ireturn, 1) := by decide +kernel
theorem dX4_wrongBook_0 : decode cX4_wrongBook 0 = .ok (.aload_n 0, 1) := by decide +kernel
theorem dX4_wrongBook_1 : decode cX4_wrongBook 1 = .ok (.iload_n 1, 1) := by decide +kernel
theorem dX4_wrongBook_2 : decode cX4_wrongBook 2 = .ok (.invokevirtual 307, 3) := by decide +kernel
theorem dX4_wrongBook_5 : decode cX4_wrongBook 5 = .ok (.istore_n 3, 1) := by decide +kernel
theorem dX4_wrongBook_6 : decode cX4_wrongBook 6 = .ok (.iload_n 3, 1) := by decide +kernel
theorem dX4_wrongBook_7 : decode cX4_wrongBook 7 = .ok (.ifCond .eq 7, 3) := by decide +kernel
theorem dX4_wrongBook_10 : decode cX4_wrongBook 10 = .ok (.iload_n 3, 1) := by decide +kernel
theorem dX4_wrongBook_11 : decode cX4_wrongBook 11 = .ok (.goto 17, 3) := by decide +kernel
theorem dX4_wrongBook_14 : decode cX4_wrongBook 14 = .ok (.aload_n 0, 1) := by decide +kernel
theorem dX4_wrongBook_15 : decode cX4_wrongBook 15 = .ok (.iload_n 2, 1) := by decide +kernel
theorem dX4_wrongBook_16 : decode cX4_wrongBook 16 = .ok (.invokevirtual 48, 3) := by decide +kernel
theorem dX4_wrongBook_19 : decode cX4_wrongBook 19 = .ok (.ifCond .eq 7, 3) := by decide +kernel
theorem dX4_wrongBook_22 : decode cX4_wrongBook 22 = .ok (.iconst 0, 1) := by decide +kernel
theorem dX4_wrongBook_23 : decode cX4_wrongBook 23 = .ok (.goto 5, 3) := by decide +kernel
theorem dX4_wrongBook_26 : decode cX4_wrongBook 26 = .ok (.ldc 41, 2) := by decide +kernel
theorem dX4_wrongBook_28 : decode cX4_wrongBook 28 = .ok (.ireturn, 1) := by decide +kernel
theorem dX4_book_0 : decode cX4_book 0 = .ok (.aload_n 0, 1) := by decide +kernel
theorem dX4_book_1 : decode cX4_book 1 = .ok (.iload_n 1, 1) := by decide +kernel
theorem dX4_book_2 : decode cX4_book 2 = .ok (.iload_n 2, 1) := by decide +kernel
theorem dX4_book_3 : decode cX4_book 3 = .ok (.invokevirtual 314, 3) := by decide +kernel
theorem dX4_book_6 : decode cX4_book 6 = .ok (.istore_n 3, 1) := by decide +kernel
theorem dX4_book_7 : decode cX4_book 7 = .ok (.iload_n 3, 1) := by decide +kernel
theorem dX4_book_8 : decode cX4_book 8 = .ok (.ifCond .eq 9, 3) := by decide +kernel
theorem dX4_book_11 : decode cX4_book 11 = .ok (.aload_n 0, 1) := by decide +kernel
theorem dX4_book_12 : decode cX4_book 12 = .ok (.iload_n 3, 1) := by decide +kernel
theorem dX4_book_13 : decode cX4_book 13 = .ok (.invokevirtual 66, 3) := by decide +kernel
theorem dX4_book_16 : decode cX4_book 16 = .ok (.ireturn, 1) := by decide +kernel
theorem dX4_book_17 : decode cX4_book 17 = .ok (.aload_n 0, 1) := by decide +kernel
theorem dX4_book_18 : decode cX4_book 18 = .ok (.invokevirtual 164, 3) := by decide +kernel
theorem dX4_book_21 : decode cX4_book 21 = .ok (.iconst 0, 1) := by decide +kernel
theorem dX4_book_22 : decode cX4_book 22 = .ok (.istore 4, 2) := by decide +kernel
theorem dX4_book_24 : decode cX4_book 24 = .ok (.iload 4, 2) := by decide +kernel
theorem dX4_book_26 : decode cX4_book 26 = .ok (.aload_n 0, 1) := by decide +kernel
theorem dX4_book_27 : decode cX4_book 27 = .ok (.getfield 31, 3) := by decide +kernel
theorem dX4_book_30 : decode cX4_book 30 = .ok (.iload_n 1, 1) := by decide +kernel
theorem dX4_book_31 : decode cX4_book 31 = .ok (.iaload, 1) := by decide +kernel
theorem dX4_book_32 : decode cX4_book 32 = .ok (.if_icmp .ge 41, 3) := by decide +kernel
theorem dX4_book_35 : decode cX4_book 35 = .ok (.aload_n 0, 1) := by decide +kernel
theorem dX4_book_36 : decode cX4_book 36 = .ok (.getfield 34, 3) := by decide +kernel
theorem dX4_book_39 : decode cX4_book 39 = .ok (.bipush 40, 2) := by decide +kernel
theorem dX4_book_41 : decode cX4_book 41 = .ok (.iload_n 1, 1) := by decide +kernel
theorem dX4_book_42 : decode cX4_book 42 = .ok (.imul, 1) := by decide +kernel
theorem dX4_book_43 : decode cX4_book 43 = .ok (.iload 4, 2) := by decide +kernel
theorem dX4_book_45 : decode cX4_book 45 = .ok (.iadd, 1) := by decide +kernel
theorem dX4_book_46 : decode cX4_book 46 = .ok (.aload_n 0, 1) := by decide +kernel
theorem dX4_book_47 : decode cX4_book 47 = .ok (.getfield 28, 3) := by decide +kernel
theorem dX4_book_50 : decode cX4_book 50 = .ok (.iload_n 1, 1) := by decide +kernel
theorem dX4_book_51 : decode cX4_book 51 = .ok (.iaload, 1) := by decide +kernel
theorem dX4_book_52 : decode cX4_book 52 = .ok (.aload_n 0, 1) := by decide +kernel
theorem dX4_book_53 : decode cX4_book 53 = .ok (.iload_n 2, 1) := by decide +kernel
theorem dX4_book_54 : decode cX4_book 54 = .ok (.iconst 1, 1) := by decide +kernel
theorem dX4_book_55 : decode cX4_book 55 = .ok (.invokevirtual 58, 3) := by decide +kernel
theorem dX4_book_58 : decode cX4_book 58 = .ok (.i2l, 1) := by decide +kernel
theorem dX4_book_59 : decode cX4_book 59 = .ok (.invokestatic 310, 3) := by decide +kernel
theorem dX4_book_62 : decode cX4_book 62 = .ok (.lastore, 1) := by decide +kernel
theorem dX4_book_63 : decode cX4_book 63 = .ok (.aload_n 0, 1) := by decide +kernel
theorem dX4_book_64 : decode cX4_book 64 = .ok (.invokevirtual 147, 3) := by decide +kernel
theorem dX4_book_67 : decode cX4_book 67 = .ok (.iinc 4 1, 3) := by decide +kernel
theorem dX4_book_70 : decode cX4_book 70 = .ok (.goto (-46), 3) := by decide +kernel
theorem dX4_book_73 : decode cX4_book 73 = .ok (.aload_n 0, 1) := by decide +kernel
theorem dX4_book_74 : decode cX4_book 74 = .ok (.aload_n 0, 1) := by decide +kernel
theorem dX4_book_75 : decode cX4_book 75 = .ok (.getfield 31, 3) := by decide +kernel
theorem dX4_book_78 : decode cX4_book 78 = .ok (.iload_n 1, 1) := by decide +kernel
theorem dX4_book_79 : decode cX4_book 79 = .ok (.iaload, 1) := by decide +kernel
theorem dX4_book_80 : decode cX4_book 80 = .ok (.invokevirtual 167, 3) := by decide +kernel
theorem dX4_book_83 : decode cX4_book 83 = .ok (.ireturn, 1) := by decide +kernel
theorem dX4_isBook_0 : decode cX4_isBook 0 = .ok (.iconst 0, 1) := by decide +kernel
theorem dX4_isBook_1 : decode cX4_isBook 1 = .ok (.istore_n 3, 1) := by decide +kernel
theorem dX4_isBook_2 : decode cX4_isBook 2 = .ok (.iload_n 3, 1) := by decide +kernel
theorem dX4_isBook_3 : decode cX4_isBook 3 = .ok (.aload_n 0, 1) := by decide +kernel
theorem dX4_isBook_4 : decode cX4_isBook 4 = .ok (.getfield 31, 3) := by decide +kernel
theorem dX4_isBook_7 : decode cX4_isBook 7 = .ok (.iload_n 1, 1) := by decide +kernel
theorem dX4_isBook_8 : decode cX4_isBook 8 = .ok (.iaload, 1) := by decide +kernel
theorem dX4_isBook_9 : decode cX4_isBook 9 = .ok (.if_icmp .ge 37, 3) := by decide +kernel
theorem dX4_isBook_12 : decode cX4_isBook 12 = .ok (.aload_n 0, 1) := by decide +kernel
theorem dX4_isBook_13 : decode cX4_isBook 13 = .ok (.getfield 34, 3) := by decide +kernel
theorem dX4_isBook_16 : decode cX4_isBook 16 = .ok (.bipush 40, 2) := by decide +kernel
theorem dX4_isBook_18 : decode cX4_isBook 18 = .ok (.iload_n 1, 1) := by decide +kernel
theorem dX4_isBook_19 : decode cX4_isBook 19 = .ok (.imul, 1) := by decide +kernel
theorem dX4_isBook_20 : decode cX4_isBook 20 = .ok (.iload_n 3, 1) := by decide +kernel
theorem dX4_isBook_21 : decode cX4_isBook 21 = .ok (.iadd, 1) := by decide +kernel
theorem dX4_isBook_22 : decode cX4_isBook 22 = .ok (.laload, 1) := by decide +kernel
theorem dX4_isBook_23 : decode cX4_isBook 23 = .ok (.aload_n 0, 1) := by decide +kernel
theorem dX4_isBook_24 : decode cX4_isBook 24 = .ok (.iload_n 2, 1) := by decide +kernel
theorem dX4_isBook_25 : decode cX4_isBook 25 = .ok (.iconst 1, 1) := by decide +kernel
theorem dX4_isBook_26 : decode cX4_isBook 26 = .ok (.invokevirtual 58, 3) := by decide +kernel
theorem dX4_isBook_29 : decode cX4_isBook 29 = .ok (.i2l, 1) := by decide +kernel
theorem dX4_isBook_30 : decode cX4_isBook 30 = .ok (.lcmp, 1) := by decide +kernel
theorem dX4_isBook_31 : decode cX4_isBook 31 = .ok (.ifCond .eq 5, 3) := by decide +kernel
theorem dX4_isBook_34 : decode cX4_isBook 34 = .ok (.iconst 0, 1) := by decide +kernel
theorem dX4_isBook_35 : decode cX4_isBook 35 = .ok (.ireturn, 1) := by decide +kernel
theorem dX4_isBook_36 : decode cX4_isBook 36 = .ok (.aload_n 0, 1) := by decide +kernel
theorem dX4_isBook_37 : decode cX4_isBook 37 = .ok (.invokevirtual 147, 3) := by decide +kernel
theorem dX4_isBook_40 : decode cX4_isBook 40 = .ok (.iinc 3 1, 3) := by decide +kernel
theorem dX4_isBook_43 : decode cX4_isBook 43 = .ok (.goto (-41), 3) := by decide +kernel
theorem dX4_isBook_46 : decode cX4_isBook 46 = .ok (.iconst 1, 1) := by decide +kernel
theorem dX4_isBook_47 : decode cX4_isBook 47 = .ok (.ireturn, 1) := by decide +kernel
theorem dX4_read_0 : decode cX4_read 0 = .ok (.aload_n 0, 1) := by decide +kernel
theorem dX4_read_1 : decode cX4_read 1 = .ok (.iload_n 1, 1) := by decide +kernel
theorem dX4_read_2 : decode cX4_read 2 = .ok (.iload_n 2, 1) := by decide +kernel
theorem dX4_read_3 : decode cX4_read 3 = .ok (.invokevirtual 314, 3) := by decide +kernel
theorem dX4_read_6 : decode cX4_read 6 = .ok (.istore_n 3, 1) := by decide +kernel
theorem dX4_read_7 : decode cX4_read 7 = .ok (.iload_n 3, 1) := by decide +kernel
theorem dX4_read_8 : decode cX4_read 8 = .ok (.ifCond .eq 9, 3) := by decide +kernel
theorem dX4_read_11 : decode cX4_read 11 = .ok (.aload_n 0, 1) := by decide +kernel
theorem dX4_read_12 : decode cX4_read 12 = .ok (.iload_n 3, 1) := by decide +kernel
theorem dX4_read_13 : decode cX4_read 13 = .ok (.invokevirtual 66, 3) := by decide +kernel
theorem dX4_read_16 : decode cX4_read 16 = .ok (.ireturn, 1) := by decide +kernel
theorem dX4_read_17 : decode cX4_read 17 = .ok (.aload_n 0, 1) := by decide +kernel
theorem dX4_read_18 : decode cX4_read 18 = .ok (.invokevirtual 164, 3) := by decide +kernel
theorem dX4_read_21 : decode cX4_read 21 = .ok (.iconst 0, 1) := by decide +kernel
theorem dX4_read_22 : decode cX4_read 22 = .ok (.istore 4, 2) := by decide +kernel
theorem dX4_read_24 : decode cX4_read 24 = .ok (.iconst 0, 1) := by decide +kernel
theorem dX4_read_25 : decode cX4_read 25 = .ok (.istore 5, 2) := by decide +kernel
theorem dX4_read_27 : decode cX4_read 27 = .ok (.iload 5, 2) := by decide +kernel
theorem dX4_read_29 : decode cX4_read 29 = .ok (.bipush 24, 2) := by decide +kernel
theorem dX4_read_31 : decode cX4_read 31 = .ok (.if_icmp .ge 60, 3) := by decide +kernel
theorem dX4_read_34 : decode cX4_read 34 = .ok (.aload_n 0, 1) := by decide +kernel
theorem dX4_read_35 : decode cX4_read 35 = .ok (.getfield 7, 3) := by decide +kernel
theorem dX4_read_38 : decode cX4_read 38 = .ok (.iload_n 2, 1) := by decide +kernel
theorem dX4_read_39 : decode cX4_read 39 = .ok (.iconst 0, 1) := by decide +kernel
theorem dX4_read_40 : decode cX4_read 40 = .ok (.invokestatic 54, 3) := by decide +kernel
theorem dX4_read_43 : decode cX4_read 43 = .ok (.iload 5, 2) := by decide +kernel
theorem dX4_read_45 : decode cX4_read 45 = .ok (.iconst 4, 1) := by decide +kernel
theorem dX4_read_46 : decode cX4_read 46 = .ok (.idiv, 1) := by decide +kernel
theorem dX4_read_47 : decode cX4_read 47 = .ok (.iastore, 1) := by decide +kernel
theorem dX4_read_48 : decode cX4_read 48 = .ok (.aload_n 0, 1) := by decide +kernel
theorem dX4_read_49 : decode cX4_read 49 = .ok (.getfield 7, 3) := by decide +kernel
theorem dX4_read_52 : decode cX4_read 52 = .ok (.iload_n 2, 1) := by decide +kernel
theorem dX4_read_53 : decode cX4_read 53 = .ok (.iconst 3, 1) := by decide +kernel
theorem dX4_read_54 : decode cX4_read 54 = .ok (.invokestatic 54, 3) := by decide +kernel
theorem dX4_read_57 : decode cX4_read 57 = .ok (.iload 5, 2) := by decide +kernel
theorem dX4_read_59 : decode cX4_read 59 = .ok (.iconst 4, 1) := by decide +kernel
theorem dX4_read_60 : decode cX4_read 60 = .ok (.irem, 1) := by decide +kernel
theorem dX4_read_61 : decode cX4_read 61 = .ok (.iastore, 1) := by decide +kernel
theorem dX4_read_62 : decode cX4_read 62 = .ok (.aload_n 0, 1) := by decide +kernel
theorem dX4_read_63 : decode cX4_read 63 = .ok (.iload 4, 2) := by decide +kernel
theorem dX4_read_65 : decode cX4_read 65 = .ok (.aload_n 0, 1) := by decide +kernel
theorem dX4_read_66 : decode cX4_read 66 = .ok (.iload_n 1, 1) := by decide +kernel
theorem dX4_read_67 : decode cX4_read 67 = .ok (.iload_n 2, 1) := by decide +kernel
theorem dX4_read_68 : decode cX4_read 68 = .ok (.invokevirtual 317, 3) := by decide +kernel
theorem dX4_read_71 : decode cX4_read 71 = .ok (.ifCond .eq 7, 3) := by decide +kernel
theorem dX4_read_74 : decode cX4_read 74 = .ok (.iconst 1, 1) := by decide +kernel
theorem dX4_read_75 : decode cX4_read 75 = .ok (.goto 4, 3) := by decide +kernel
theorem dX4_read_78 : decode cX4_read 78 = .ok (.iconst 0, 1) := by decide +kernel
theorem dX4_read_79 : decode cX4_read 79 = .ok (.iadd, 1) := by decide +kernel
theorem dX4_read_80 : decode cX4_read 80 = .ok (.invokevirtual 167, 3) := by decide +kernel
theorem dX4_read_83 : decode cX4_read 83 = .ok (.istore 4, 2) := by decide +kernel
theorem dX4_read_85 : decode cX4_read 85 = .ok (.iinc 5 1, 3) := by decide +kernel
theorem dX4_read_88 : decode cX4_read 88 = .ok (.goto (-61), 3) := by decide +kernel
theorem dX4_read_91 : decode cX4_read 91 = .ok (.iload 4, 2) := by decide +kernel
theorem dX4_read_93 : decode cX4_read 93 = .ok (.ireturn, 1) := by decide +kernel
theorem dX4_image_0 : decode cX4_image 0 = .ok (.iconst 0, 1) := by decide +kernel
theorem dX4_image_1 : decode cX4_image 1 = .ok (.istore_n 1, 1) := by decide +kernel
theorem dX4_image_2 : decode cX4_image 2 = .ok (.iload_n 1, 1) := by decide +kernel
theorem dX4_image_3 : decode cX4_image 3 = .ok (.bipush 60, 2) := by decide +kernel
theorem dX4_image_5 : decode cX4_image 5 = .ok (.if_icmp .ge 21, 3) := by decide +kernel
theorem dX4_image_8 : decode cX4_image 8 = .ok (.aload_n 0, 1) := by decide +kernel
theorem dX4_image_9 : decode cX4_image 9 = .ok (.getfield 13, 3) := by decide +kernel
theorem dX4_image_12 : decode cX4_image 12 = .ok (.iload_n 1, 1) := by decide +kernel
theorem dX4_image_13 : decode cX4_image 13 = .ok (.aload_n 0, 1) := by decide +kernel
theorem dX4_image_14 : decode cX4_image 14 = .ok (.getfield 7, 3) := by decide +kernel
theorem dX4_image_17 : decode cX4_image 17 = .ok (.iload_n 1, 1) := by decide +kernel
theorem dX4_image_18 : decode cX4_image 18 = .ok (.iaload, 1) := by decide +kernel
theorem dX4_image_19 : decode cX4_image 19 = .ok (.iastore, 1) := by decide +kernel
theorem dX4_image_20 : decode cX4_image 20 = .ok (.iinc 1 1, 3) := by decide +kernel
theorem dX4_image_23 : decode cX4_image 23 = .ok (.goto (-21), 3) := by decide +kernel
theorem dX4_image_26 : decode cX4_image 26 = .ok (.aload_n 0, 1) := by decide +kernel
theorem dX4_image_27 : decode cX4_image 27 = .ok (.iconst 1, 1) := by decide +kernel
theorem dX4_image_28 : decode cX4_image 28 = .ok (.putfield 320, 3) := by decide +kernel
theorem dX4_image_31 : decode cX4_image 31 = .ok (.iconst 1, 1) := by decide +kernel
theorem dX4_image_32 : decode cX4_image 32 = .ok (.ireturn, 1) := by decide +kernel
theorem dX4_undo_0 : decode cX4_undo 0 = .ok (.aload_n 0, 1) := by decide +kernel
theorem dX4_undo_1 : decode cX4_undo 1 = .ok (.getfield 320, 3) := by decide +kernel
theorem dX4_undo_4 : decode cX4_undo 4 = .ok (.ifCond .ne 10, 3) := by decide +kernel
theorem dX4_undo_7 : decode cX4_undo 7 = .ok (.aload_n 0, 1) := by decide +kernel
theorem dX4_undo_8 : decode cX4_undo 8 = .ok (.ldc 178, 2) := by decide +kernel
theorem dX4_undo_10 : decode cX4_undo 10 = .ok (.invokevirtual 66, 3) := by decide +kernel
theorem dX4_undo_13 : decode cX4_undo 13 = .ok (.ireturn, 1) := by decide +kernel
theorem dX4_undo_14 : decode cX4_undo 14 = .ok (.iconst 0, 1) := by decide +kernel
theorem dX4_undo_15 : decode cX4_undo 15 = .ok (.istore_n 1, 1) := by decide +kernel
theorem dX4_undo_16 : decode cX4_undo 16 = .ok (.iload_n 1, 1) := by decide +kernel
theorem dX4_undo_17 : decode cX4_undo 17 = .ok (.bipush 60, 2) := by decide +kernel
theorem dX4_undo_19 : decode cX4_undo 19 = .ok (.if_icmp .ge 21, 3) := by decide +kernel
theorem dX4_undo_22 : decode cX4_undo 22 = .ok (.aload_n 0, 1) := by decide +kernel
theorem dX4_undo_23 : decode cX4_undo 23 = .ok (.getfield 7, 3) := by decide +kernel
theorem dX4_undo_26 : decode cX4_undo 26 = .ok (.iload_n 1, 1) := by decide +kernel
theorem dX4_undo_27 : decode cX4_undo 27 = .ok (.aload_n 0, 1) := by decide +kernel
theorem dX4_undo_28 : decode cX4_undo 28 = .ok (.getfield 13, 3) := by decide +kernel
theorem dX4_undo_31 : decode cX4_undo 31 = .ok (.iload_n 1, 1) := by decide +kernel
theorem dX4_undo_32 : decode cX4_undo 32 = .ok (.iaload, 1) := by decide +kernel
theorem dX4_undo_33 : decode cX4_undo 33 = .ok (.iastore, 1) := by decide +kernel
theorem dX4_undo_34 : decode cX4_undo 34 = .ok (.iinc 1 1, 3) := by decide +kernel
theorem dX4_undo_37 : decode cX4_undo 37 = .ok (.goto (-21), 3) := by decide +kernel
theorem dX4_undo_40 : decode cX4_undo 40 = .ok (.aload_n 0, 1) := by decide +kernel
theorem dX4_undo_41 : decode cX4_undo 41 = .ok (.getfield 7, 3) := by decide +kernel
theorem dX4_undo_44 : decode cX4_undo 44 = .ok (.iconst 0, 1) := by decide +kernel
theorem dX4_undo_45 : decode cX4_undo 45 = .ok (.iaload, 1) := by decide +kernel
theorem dX4_undo_46 : decode cX4_undo 46 = .ok (.ireturn, 1) := by decide +kernel
theorem dX4_tear_0 : decode cX4_tear 0 = .ok (.aload_n 0, 1) := by decide +kernel
theorem dX4_tear_1 : decode cX4_tear 1 = .ok (.getfield 320, 3) := by decide +kernel
theorem dX4_tear_4 : decode cX4_tear 4 = .ok (.ifCond .eq 7, 3) := by decide +kernel
theorem dX4_tear_7 : decode cX4_tear 7 = .ok (.iconst 1, 1) := by decide +kernel
theorem dX4_tear_8 : decode cX4_tear 8 = .ok (.goto 4, 3) := by decide +kernel
theorem dX4_tear_11 : decode cX4_tear 11 = .ok (.iconst 0, 1) := by decide +kernel
theorem dX4_tear_12 : decode cX4_tear 12 = .ok (.istore_n 1, 1) := by decide +kernel
theorem dX4_tear_13 : decode cX4_tear 13 = .ok (.aload_n 0, 1) := by decide +kernel
theorem dX4_tear_14 : decode cX4_tear 14 = .ok (.iconst 0, 1) := by decide +kernel
theorem dX4_tear_15 : decode cX4_tear 15 = .ok (.putfield 320, 3) := by decide +kernel
theorem dX4_tear_18 : decode cX4_tear 18 = .ok (.iload_n 1, 1) := by decide +kernel
theorem dX4_tear_19 : decode cX4_tear 19 = .ok (.ireturn, 1) := by decide +kernel
theorem dX4_count_0 : decode cX4_count 0 = .ok (.iload_n 1, 1) := by decide +kernel
theorem dX4_count_1 : decode cX4_count 1 = .ok (.tableswitch 61 0 3 #[31, 38, 43, 51], 31) := by decide +kernel
theorem dX4_count_32 : decode cX4_count 32 = .ok (.aload_n 0, 1) := by decide +kernel
theorem dX4_count_33 : decode cX4_count 33 = .ok (.getfield 7, 3) := by decide +kernel
theorem dX4_count_36 : decode cX4_count 36 = .ok (.iconst 0, 1) := by decide +kernel
theorem dX4_count_37 : decode cX4_count 37 = .ok (.iaload, 1) := by decide +kernel
theorem dX4_count_38 : decode cX4_count 38 = .ok (.ireturn, 1) := by decide +kernel
theorem dX4_count_39 : decode cX4_count 39 = .ok (.aload_n 0, 1) := by decide +kernel
theorem dX4_count_40 : decode cX4_count 40 = .ok (.getfield 203, 3) := by decide +kernel
theorem dX4_count_43 : decode cX4_count 43 = .ok (.ireturn, 1) := by decide +kernel
theorem dX4_count_44 : decode cX4_count 44 = .ok (.aload_n 0, 1) := by decide +kernel
theorem dX4_count_45 : decode cX4_count 45 = .ok (.invokevirtual 124, 3) := by decide +kernel
theorem dX4_count_48 : decode cX4_count 48 = .ok (.invokestatic 128, 3) := by decide +kernel
theorem dX4_count_51 : decode cX4_count 51 = .ok (.ireturn, 1) := by decide +kernel
theorem dX4_count_52 : decode cX4_count 52 = .ok (.aload_n 0, 1) := by decide +kernel
theorem dX4_count_53 : decode cX4_count 53 = .ok (.getfield 7, 3) := by decide +kernel
theorem dX4_count_56 : decode cX4_count 56 = .ok (.iconst 2, 1) := by decide +kernel
theorem dX4_count_57 : decode cX4_count 57 = .ok (.iaload, 1) := by decide +kernel
theorem dX4_count_58 : decode cX4_count 58 = .ok (.invokestatic 128, 3) := by decide +kernel
theorem dX4_count_61 : decode cX4_count 61 = .ok (.ireturn, 1) := by decide +kernel
theorem dX4_count_62 : decode cX4_count 62 = .ok (.aload_n 0, 1) := by decide +kernel
theorem dX4_count_63 : decode cX4_count 63 = .ok (.ldc 41, 2) := by decide +kernel
theorem dX4_count_65 : decode cX4_count 65 = .ok (.invokevirtual 66, 3) := by decide +kernel
theorem dX4_count_68 : decode cX4_count 68 = .ok (.ireturn, 1) := by decide +kernel
theorem dX4_status_0 : decode cX4_status 0 = .ok (.iload_n 1, 1) := by decide +kernel
theorem dX4_status_1 : decode cX4_status 1 = .ok (.i2l, 1) := by decide +kernel
theorem dX4_status_2 : decode cX4_status 2 = .ok (.ldc2_w 323, 3) := by decide +kernel
theorem dX4_status_5 : decode cX4_status 5 = .ok (.ldc2_w 325, 3) := by decide +kernel
theorem dX4_status_8 : decode cX4_status 8 = .ok (.invokestatic 44, 3) := by decide +kernel
theorem dX4_status_11 : decode cX4_status 11 = .ok (.ifCond .ne 10, 3) := by decide +kernel
theorem dX4_status_14 : decode cX4_status 14 = .ok (.aload_n 0, 1) := by decide +kernel
theorem dX4_status_15 : decode cX4_status 15 = .ok (.ldc 41, 2) := by decide +kernel
theorem dX4_status_17 : decode cX4_status 17 = .ok (.invokevirtual 66, 3) := by decide +kernel
theorem dX4_status_20 : decode cX4_status 20 = .ok (.ireturn, 1) := by decide +kernel
theorem dX4_status_21 : decode cX4_status 21 = .ok (.iconst 0, 1) := by decide +kernel
theorem dX4_status_22 : decode cX4_status 22 = .ok (.istore_n 2, 1) := by decide +kernel
theorem dX4_status_23 : decode cX4_status 23 = .ok (.iconst 0, 1) := by decide +kernel
theorem dX4_status_24 : decode cX4_status 24 = .ok (.istore_n 3, 1) := by decide +kernel
theorem dX4_status_25 : decode cX4_status 25 = .ok (.iload_n 3, 1) := by decide +kernel
theorem dX4_status_26 : decode cX4_status 26 = .ok (.bipush 7, 2) := by decide +kernel
theorem dX4_status_28 : decode cX4_status 28 = .ok (.if_icmp .ge 31, 3) := by decide +kernel
theorem dX4_status_31 : decode cX4_status 31 = .ok (.iload_n 2, 1) := by decide +kernel
theorem dX4_status_32 : decode cX4_status 32 = .ok (.iload_n 1, 1) := by decide +kernel
theorem dX4_status_33 : decode cX4_status 33 = .ok (.ifCond .lt 8, 3) := by decide +kernel
theorem dX4_status_36 : decode cX4_status 36 = .ok (.iload_n 3, 1) := by decide +kernel
theorem dX4_status_37 : decode cX4_status 37 = .ok (.iload_n 1, 1) := by decide +kernel
theorem dX4_status_38 : decode cX4_status 38 = .ok (.if_icmp .ne 12, 3) := by decide +kernel
theorem dX4_status_41 : decode cX4_status 41 = .ok (.aload_n 0, 1) := by decide +kernel
theorem dX4_status_42 : decode cX4_status 42 = .ok (.getfield 22, 3) := by decide +kernel
theorem dX4_status_45 : decode cX4_status 45 = .ok (.iload_n 3, 1) := by decide +kernel
theorem dX4_status_46 : decode cX4_status 46 = .ok (.iaload, 1) := by decide +kernel
theorem dX4_status_47 : decode cX4_status 47 = .ok (.goto 4, 3) := by decide +kernel
theorem dX4_status_50 : decode cX4_status 50 = .ok (.iconst 0, 1) := by decide +kernel
theorem dX4_status_51 : decode cX4_status 51 = .ok (.iadd, 1) := by decide +kernel
theorem dX4_status_52 : decode cX4_status 52 = .ok (.istore_n 2, 1) := by decide +kernel
theorem dX4_status_53 : decode cX4_status 53 = .ok (.iinc 3 1, 3) := by decide +kernel
theorem dX4_status_56 : decode cX4_status 56 = .ok (.goto (-31), 3) := by decide +kernel
theorem dX4_status_59 : decode cX4_status 59 = .ok (.iload_n 2, 1) := by decide +kernel
theorem dX4_status_60 : decode cX4_status 60 = .ok (.ireturn, 1) := by decide +kernel
