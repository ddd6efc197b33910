theorem dX0_init_0 : decode cX0_init 0 = .ok (.aload_n 0, 1) := by decide +kernel
theorem dX0_init_1 : decode cX0_init 1 = .ok (.invokespecial 3, 3) := by decide +kernel
theorem dX0_init_4 : decode cX0_init 4 = .ok (.aload_n 0, 1) := by decide +kernel
theorem dX0_init_5 : decode cX0_init 5 = .ok (.iconst 0, 1) := by decide +kernel
theorem dX0_init_6 : decode cX0_init 6 = .ok (.putfield 9, 3) := by decide +kernel
theorem dX0_init_9 : decode cX0_init 9 = .ok (.aload_n 0, 1) := by decide +kernel
theorem dX0_init_10 : decode cX0_init 10 = .ok (.iconst 0, 1) := by decide +kernel
theorem dX0_init_11 : decode cX0_init 11 = .ok (.putfield 15, 3) := by decide +kernel
theorem dX0_init_14 : decode cX0_init 14 = .ok (.aload_n 0, 1) := by decide +kernel
theorem dX0_init_15 : decode cX0_init 15 = .ok (.bipush 35, 2) := by decide +kernel
theorem dX0_init_17 : decode cX0_init 17 = .ok (.putfield 18, 3) := by decide +kernel
theorem dX0_init_20 : decode cX0_init 20 = .ok (.aload_n 0, 1) := by decide +kernel
theorem dX0_init_21 : decode cX0_init 21 = .ok (.iconst 0, 1) := by decide +kernel
theorem dX0_init_22 : decode cX0_init 22 = .ok (.putfield 21, 3) := by decide +kernel
theorem dX0_init_25 : decode cX0_init 25 = .ok (.aload_n 0, 1) := by decide +kernel
theorem dX0_init_26 : decode cX0_init 26 = .ok (.bipush 8, 2) := by decide +kernel
theorem dX0_init_28 : decode cX0_init 28 = .ok (.newarray .int, 2) := by decide +kernel
theorem dX0_init_30 : decode cX0_init 30 = .ok (.putfield 24, 3) := by decide +kernel
theorem dX0_init_33 : decode cX0_init 33 = .ok (.aload_n 0, 1) := by decide +kernel
theorem dX0_init_34 : decode cX0_init 34 = .ok (.bipush 8, 2) := by decide +kernel
theorem dX0_init_36 : decode cX0_init 36 = .ok (.newarray .int, 2) := by decide +kernel
theorem dX0_init_38 : decode cX0_init 38 = .ok (.putfield 28, 3) := by decide +kernel
theorem dX0_init_41 : decode cX0_init 41 = .ok (.aload_n 0, 1) := by decide +kernel
theorem dX0_init_42 : decode cX0_init 42 = .ok (.bipush 8, 2) := by decide +kernel
theorem dX0_init_44 : decode cX0_init 44 = .ok (.newarray .int, 2) := by decide +kernel
theorem dX0_init_46 : decode cX0_init 46 = .ok (.putfield 31, 3) := by decide +kernel
theorem dX0_init_49 : decode cX0_init 49 = .ok (.aload_n 0, 1) := by decide +kernel
theorem dX0_init_50 : decode cX0_init 50 = .ok (.bipush 8, 2) := by decide +kernel
theorem dX0_init_52 : decode cX0_init 52 = .ok (.newarray .int, 2) := by decide +kernel
theorem dX0_init_54 : decode cX0_init 54 = .ok (.putfield 34, 3) := by decide +kernel
theorem dX0_init_57 : decode cX0_init 57 = .ok (.aload_n 0, 1) := by decide +kernel
theorem dX0_init_58 : decode cX0_init 58 = .ok (.bipush 8, 2) := by decide +kernel
theorem dX0_init_60 : decode cX0_init 60 = .ok (.newarray .int, 2) := by decide +kernel
theorem dX0_init_62 : decode cX0_init 62 = .ok (.putfield 37, 3) := by decide +kernel
theorem dX0_init_65 : decode cX0_init 65 = .ok (.aload_n 0, 1) := by decide +kernel
theorem dX0_init_66 : decode cX0_init 66 = .ok (.bipush 8, 2) := by decide +kernel
theorem dX0_init_68 : decode cX0_init 68 = .ok (.newarray .int, 2) := by decide +kernel
theorem dX0_init_70 : decode cX0_init 70 = .ok (.putfield 40, 3) := by decide +kernel
theorem dX0_init_73 : decode cX0_init 73 = .ok (.aload_n 0, 1) := by decide +kernel
theorem dX0_init_74 : decode cX0_init 74 = .ok (.bipush 8, 2) := by decide +kernel
theorem dX0_init_76 : decode cX0_init 76 = .ok (.newarray .int, 2) := by decide +kernel
theorem dX0_init_78 : decode cX0_init 78 = .ok (.putfield 43, 3) := by decide +kernel
theorem dX0_init_81 : decode cX0_init 81 = .ok (.return_, 1) := by decide +kernel
theorem dX0_takeFrom_0 : decode cX0_takeFrom 0 = .ok (.aload_n 0, 1) := by decide +kernel
theorem dX0_takeFrom_1 : decode cX0_takeFrom 1 = .ok (.aload_n 1, 1) := by decide +kernel
theorem dX0_takeFrom_2 : decode cX0_takeFrom 2 = .ok (.getfield 9, 3) := by decide +kernel
theorem dX0_takeFrom_5 : decode cX0_takeFrom 5 = .ok (.putfield 9, 3) := by decide +kernel
theorem dX0_takeFrom_8 : decode cX0_takeFrom 8 = .ok (.aload_n 0, 1) := by decide +kernel
theorem dX0_takeFrom_9 : decode cX0_takeFrom 9 = .ok (.aload_n 1, 1) := by decide +kernel
theorem dX0_takeFrom_10 : decode cX0_takeFrom 10 = .ok (.getfield 15, 3) := by decide +kernel
theorem dX0_takeFrom_13 : decode cX0_takeFrom 13 = .ok (.putfield 15, 3) := by decide +kernel
theorem dX0_takeFrom_16 : decode cX0_takeFrom 16 = .ok (.aload_n 0, 1) := by decide +kernel
theorem dX0_takeFrom_17 : decode cX0_takeFrom 17 = .ok (.aload_n 1, 1) := by decide +kernel
theorem dX0_takeFrom_18 : decode cX0_takeFrom 18 = .ok (.getfield 18, 3) := by decide +kernel
theorem dX0_takeFrom_21 : decode cX0_takeFrom 21 = .ok (.putfield 18, 3) := by decide +kernel
theorem dX0_takeFrom_24 : decode cX0_takeFrom 24 = .ok (.aload_n 0, 1) := by decide +kernel
theorem dX0_takeFrom_25 : decode cX0_takeFrom 25 = .ok (.aload_n 1, 1) := by decide +kernel
theorem dX0_takeFrom_26 : decode cX0_takeFrom 26 = .ok (.getfield 21, 3) := by decide +kernel
theorem dX0_takeFrom_29 : decode cX0_takeFrom 29 = .ok (.putfield 21, 3) := by decide +kernel
theorem dX0_takeFrom_32 : decode cX0_takeFrom 32 = .ok (.aload_n 1, 1) := by decide +kernel
theorem dX0_takeFrom_33 : decode cX0_takeFrom 33 = .ok (.getfield 24, 3) := by decide +kernel
theorem dX0_takeFrom_36 : decode cX0_takeFrom 36 = .ok (.iconst 0, 1) := by decide +kernel
theorem dX0_takeFrom_37 : decode cX0_takeFrom 37 = .ok (.aload_n 0, 1) := by decide +kernel
theorem dX0_takeFrom_38 : decode cX0_takeFrom 38 = .ok (.getfield 24, 3) := by decide +kernel
theorem dX0_takeFrom_41 : decode cX0_takeFrom 41 = .ok (.iconst 0, 1) := by decide +kernel
theorem dX0_takeFrom_42 : decode cX0_takeFrom 42 = .ok (.bipush 8, 2) := by decide +kernel
theorem dX0_takeFrom_44 : decode cX0_takeFrom 44 = .ok (.invokestatic 46, 3) := by decide +kernel
theorem dX0_takeFrom_47 : decode cX0_takeFrom 47 = .ok (.aload_n 1, 1) := by decide +kernel
theorem dX0_takeFrom_48 : decode cX0_takeFrom 48 = .ok (.getfield 28, 3) := by decide +kernel
theorem dX0_takeFrom_51 : decode cX0_takeFrom 51 = .ok (.iconst 0, 1) := by decide +kernel
theorem dX0_takeFrom_52 : decode cX0_takeFrom 52 = .ok (.aload_n 0, 1) := by decide +kernel
theorem dX0_takeFrom_53 : decode cX0_takeFrom 53 = .ok (.getfield 28, 3) := by decide +kernel
theorem dX0_takeFrom_56 : decode cX0_takeFrom 56 = .ok (.iconst 0, 1) := by decide +kernel
theorem dX0_takeFrom_57 : decode cX0_takeFrom 57 = .ok (.bipush 8, 2) := by decide +kernel
theorem dX0_takeFrom_59 : decode cX0_takeFrom 59 = .ok (.invokestatic 46, 3) := by decide +kernel
theorem dX0_takeFrom_62 : decode cX0_takeFrom 62 = .ok (.aload_n 1, 1) := by decide +kernel
theorem dX0_takeFrom_63 : decode cX0_takeFrom 63 = .ok (.getfield 31, 3) := by decide +kernel
theorem dX0_takeFrom_66 : decode cX0_takeFrom 66 = .ok (.iconst 0, 1) := by decide +kernel
theorem dX0_takeFrom_67 : decode cX0_takeFrom 67 = .ok (.aload_n 0, 1) := by decide +kernel
theorem dX0_takeFrom_68 : decode cX0_takeFrom 68 = .ok (.getfield 31, 3) := by decide +kernel
theorem dX0_takeFrom_71 : decode cX0_takeFrom 71 = .ok (.iconst 0, 1) := by decide +kernel
theorem dX0_takeFrom_72 : decode cX0_takeFrom 72 = .ok (.bipush 8, 2) := by decide +kernel
theorem dX0_takeFrom_74 : decode cX0_takeFrom 74 = .ok (.invokestatic 46, 3) := by decide +kernel
theorem dX0_takeFrom_77 : decode cX0_takeFrom 77 = .ok (.aload_n 1, 1) := by decide +kernel
theorem dX0_takeFrom_78 : decode cX0_takeFrom 78 = .ok (.getfield 34, 3) := by decide +kernel
theorem dX0_takeFrom_81 : decode cX0_takeFrom 81 = .ok (.iconst 0, 1) := by decide +kernel
theorem dX0_takeFrom_82 : decode cX0_takeFrom 82 = .ok (.aload_n 0, 1) := by decide +kernel
theorem dX0_takeFrom_83 : decode cX0_takeFrom 83 = .ok (.getfield 34, 3) := by decide +kernel
theorem dX0_takeFrom_86 : decode cX0_takeFrom 86 = .ok (.iconst 0, 1) := by decide +kernel
theorem dX0_takeFrom_87 : decode cX0_takeFrom 87 = .ok (.bipush 8, 2) := by decide +kernel
theorem dX0_takeFrom_89 : decode cX0_takeFrom 89 = .ok (.invokestatic 46, 3) := by decide +kernel
theorem dX0_takeFrom_92 : decode cX0_takeFrom 92 = .ok (.aload_n 1, 1) := by decide +kernel
theorem dX0_takeFrom_93 : decode cX0_takeFrom 93 = .ok (.getfield 37, 3) := by decide +kernel
theorem dX0_takeFrom_96 : decode cX0_takeFrom 96 = .ok (.iconst 0, 1) := by decide +kernel
theorem dX0_takeFrom_97 : decode cX0_takeFrom 97 = .ok (.aload_n 0, 1) := by decide +kernel
theorem dX0_takeFrom_98 : decode cX0_takeFrom 98 = .ok (.getfield 37, 3) := by decide +kernel
theorem dX0_takeFrom_101 : decode cX0_takeFrom 101 = .ok (.iconst 0, 1) := by decide +kernel
theorem dX0_takeFrom_102 : decode cX0_takeFrom 102 = .ok (.bipush 8, 2) := by decide +kernel
theorem dX0_takeFrom_104 : decode cX0_takeFrom 104 = .ok (.invokestatic 46, 3) := by decide +kernel
theorem dX0_takeFrom_107 : decode cX0_takeFrom 107 = .ok (.aload_n 1, 1) := by decide +kernel
theorem dX0_takeFrom_108 : decode cX0_takeFrom 108 = .ok (.getfield 40, 3) := by decide +kernel
theorem dX0_takeFrom_111 : decode cX0_takeFrom 111 = .ok (.iconst 0, 1) := by decide +kernel
theorem dX0_takeFrom_112 : decode cX0_takeFrom 112 = .ok (.aload_n 0, 1) := by decide +kernel
theorem dX0_takeFrom_113 : decode cX0_takeFrom 113 = .ok (.getfield 40, 3) := by decide +kernel
theorem dX0_takeFrom_116 : decode cX0_takeFrom 116 = .ok (.iconst 0, 1) := by decide +kernel
theorem dX0_takeFrom_117 : decode cX0_takeFrom 117 = .ok (.bipush 8, 2) := by decide +kernel
theorem dX0_takeFrom_119 : decode cX0_takeFrom 119 = .ok (.invokestatic 46, 3) := by decide +kernel
theorem dX0_takeFrom_122 : decode cX0_takeFrom 122 = .ok (.aload_n 1, 1) := by decide +kernel
theorem dX0_takeFrom_123 : decode cX0_takeFrom 123 = .ok (.getfield 43, 3) := by decide +kernel
theorem dX0_takeFrom_126 : decode cX0_takeFrom 126 = .ok (.iconst 0, 1) := by decide +kernel
theorem dX0_takeFrom_127 : decode cX0_takeFrom 127 = .ok (.aload_n 0, 1) := by decide +kernel
theorem dX0_takeFrom_128 : decode cX0_takeFrom 128 = .ok (.getfield 43, 3) := by decide +kernel
theorem dX0_takeFrom_131 : decode cX0_takeFrom 131 = .ok (.iconst 0, 1) := by decide +kernel
theorem dX0_takeFrom_132 : decode cX0_takeFrom 132 = .ok (.bipush 8, 2) := by decide +kernel
theorem dX0_takeFrom_134 : decode cX0_takeFrom 134 = .ok (.invokestatic 46, 3) := by decide +kernel
theorem dX0_takeFrom_137 : decode cX0_takeFrom 137 = .ok (.return_, 1) := by decide +kernel
theorem dX0_has_0 : decode cX0_has 0 = .ok (.iload_n 1, 1) := by decide +kernel
theorem dX0_has_1 : decode cX0_has 1 = .ok (.ifCond .lt 15, 3) := by decide +kernel
theorem dX0_has_4 : decode cX0_has 4 = .ok (.iload_n 1, 1) := by decide +kernel
theorem dX0_has_5 : decode cX0_has 5 = .ok (.aload_n 0, 1) := by decide +kernel
theorem dX0_has_6 : decode cX0_has 6 = .ok (.getfield 21, 3) := by decide +kernel
theorem dX0_has_9 : decode cX0_has 9 = .ok (.if_icmp .ge 7, 3) := by decide +kernel
theorem dX0_has_12 : decode cX0_has 12 = .ok (.iconst 1, 1) := by decide +kernel
theorem dX0_has_13 : decode cX0_has 13 = .ok (.goto 4, 3) := by decide +kernel
theorem dX0_has_16 : decode cX0_has 16 = .ok (.iconst 0, 1) := by decide +kernel
theorem dX0_has_17 : decode cX0_has 17 = .ok (.ireturn, 1) := by decide +kernel
theorem dX0_hasRoom_0 : decode cX0_hasRoom 0 = .ok (.aload_n 0, 1) := by decide +kernel
theorem dX0_hasRoom_1 : decode cX0_hasRoom 1 = .ok (.getfield 21, 3) := by decide +kernel
theorem dX0_hasRoom_4 : decode cX0_hasRoom 4 = .ok (.bipush 8, 2) := by decide +kernel
theorem dX0_hasRoom_6 : decode cX0_hasRoom 6 = .ok (.if_icmp .ge 7, 3) := by decide +kernel
theorem dX0_hasRoom_9 : decode cX0_hasRoom 9 = .ok (.iconst 1, 1) := by decide +kernel
theorem dX0_hasRoom_10 : decode cX0_hasRoom 10 = .ok (.goto 4, 3) := by decide +kernel
theorem dX0_hasRoom_13 : decode cX0_hasRoom 13 = .ok (.iconst 0, 1) := by decide +kernel
theorem dX0_hasRoom_14 : decode cX0_hasRoom 14 = .ok (.ireturn, 1) := by decide +kernel
theorem dX0_come_0 : decode cX0_come 0 = .ok (.aload_n 0, 1) := by decide +kernel
theorem dX0_come_1 : decode cX0_come 1 = .ok (.invokevirtual 52, 3) := by decide +kernel
theorem dX0_come_4 : decode cX0_come 4 = .ok (.ifCond .ne 5, 3) := by decide +kernel
theorem dX0_come_7 : decode cX0_come 7 = .ok (.iconst (-1), 1) := by decide +kernel
theorem dX0_come_8 : decode cX0_come 8 = .ok (.ireturn, 1) := by decide +kernel
theorem dX0_come_9 : decode cX0_come 9 = .ok (.aload_n 0, 1) := by decide +kernel
theorem dX0_come_10 : decode cX0_come 10 = .ok (.getfield 21, 3) := by decide +kernel
theorem dX0_come_13 : decode cX0_come 13 = .ok (.istore_n 3, 1) := by decide +kernel
theorem dX0_come_14 : decode cX0_come 14 = .ok (.aload_n 0, 1) := by decide +kernel
theorem dX0_come_15 : decode cX0_come 15 = .ok (.getfield 24, 3) := by decide +kernel
theorem dX0_come_18 : decode cX0_come 18 = .ok (.iload_n 3, 1) := by decide +kernel
theorem dX0_come_19 : decode cX0_come 19 = .ok (.iload_n 1, 1) := by decide +kernel
theorem dX0_come_20 : decode cX0_come 20 = .ok (.iastore, 1) := by decide +kernel
theorem dX0_come_21 : decode cX0_come 21 = .ok (.aload_n 0, 1) := by decide +kernel
theorem dX0_come_22 : decode cX0_come 22 = .ok (.getfield 28, 3) := by decide +kernel
theorem dX0_come_25 : decode cX0_come 25 = .ok (.iload_n 3, 1) := by decide +kernel
theorem dX0_come_26 : decode cX0_come 26 = .ok (.iload_n 2, 1) := by decide +kernel
theorem dX0_come_27 : decode cX0_come 27 = .ok (.iastore, 1) := by decide +kernel
theorem dX0_come_28 : decode cX0_come 28 = .ok (.aload_n 0, 1) := by decide +kernel
theorem dX0_come_29 : decode cX0_come 29 = .ok (.getfield 31, 3) := by decide +kernel
theorem dX0_come_32 : decode cX0_come 32 = .ok (.iload_n 3, 1) := by decide +kernel
theorem dX0_come_33 : decode cX0_come 33 = .ok (.iload_n 2, 1) := by decide +kernel
theorem dX0_come_34 : decode cX0_come 34 = .ok (.iastore, 1) := by decide +kernel
theorem dX0_come_35 : decode cX0_come 35 = .ok (.aload_n 0, 1) := by decide +kernel
theorem dX0_come_36 : decode cX0_come 36 = .ok (.getfield 34, 3) := by decide +kernel
theorem dX0_come_39 : decode cX0_come 39 = .ok (.iload_n 3, 1) := by decide +kernel
theorem dX0_come_40 : decode cX0_come 40 = .ok (.iconst 0, 1) := by decide +kernel
theorem dX0_come_41 : decode cX0_come 41 = .ok (.iastore, 1) := by decide +kernel
theorem dX0_come_42 : decode cX0_come 42 = .ok (.aload_n 0, 1) := by decide +kernel
theorem dX0_come_43 : decode cX0_come 43 = .ok (.getfield 37, 3) := by decide +kernel
theorem dX0_come_46 : decode cX0_come 46 = .ok (.iload_n 3, 1) := by decide +kernel
theorem dX0_come_47 : decode cX0_come 47 = .ok (.iconst 0, 1) := by decide +kernel
theorem dX0_come_48 : decode cX0_come 48 = .ok (.iastore, 1) := by decide +kernel
theorem dX0_come_49 : decode cX0_come 49 = .ok (.aload_n 0, 1) := by decide +kernel
theorem dX0_come_50 : decode cX0_come 50 = .ok (.getfield 40, 3) := by decide +kernel
theorem dX0_come_53 : decode cX0_come 53 = .ok (.iload_n 3, 1) := by decide +kernel
theorem dX0_come_54 : decode cX0_come 54 = .ok (.iconst (-1), 1) := by decide +kernel
theorem dX0_come_55 : decode cX0_come 55 = .ok (.iastore, 1) := by decide +kernel
theorem dX0_come_56 : decode cX0_come 56 = .ok (.aload_n 0, 1) := by decide +kernel
theorem dX0_come_57 : decode cX0_come 57 = .ok (.getfield 43, 3) := by decide +kernel
theorem dX0_come_60 : decode cX0_come 60 = .ok (.iload_n 3, 1) := by decide +kernel
theorem dX0_come_61 : decode cX0_come 61 = .ok (.iconst (-1), 1) := by decide +kernel
theorem dX0_come_62 : decode cX0_come 62 = .ok (.iastore, 1) := by decide +kernel
theorem dX0_come_63 : decode cX0_come 63 = .ok (.aload_n 0, 1) := by decide +kernel
theorem dX0_come_64 : decode cX0_come 64 = .ok (.dup, 1) := by decide +kernel
theorem dX0_come_65 : decode cX0_come 65 = .ok (.getfield 21, 3) := by decide +kernel
theorem dX0_come_68 : decode cX0_come 68 = .ok (.iconst 1, 1) := by decide +kernel
theorem dX0_come_69 : decode cX0_come 69 = .ok (.iadd, 1) := by decide +kernel
theorem dX0_come_70 : decode cX0_come 70 = .ok (.putfield 21, 3) := by decide +kernel
theorem dX0_come_73 : decode cX0_come 73 = .ok (.iload_n 3, 1) := by decide +kernel
theorem dX0_come_74 : decode cX0_come 74 = .ok (.ireturn, 1) := by decide +kernel
theorem dX0_tell_0 : decode cX0_tell 0 = .ok (.iload_n 2, 1) := by decide +kernel
theorem dX0_tell_1 : decode cX0_tell 1 = .ok (.tableswitch 110 0 7 #[47, 54, 61, 68, 75, 82, 89, 96], 47) := by decide +kernel
theorem dX0_tell_48 : decode cX0_tell 48 = .ok (.aload_n 0, 1) := by decide +kernel
theorem dX0_tell_49 : decode cX0_tell 49 = .ok (.getfield 24, 3) := by decide +kernel
theorem dX0_tell_52 : decode cX0_tell 52 = .ok (.iload_n 1, 1) := by decide +kernel
theorem dX0_tell_53 : decode cX0_tell 53 = .ok (.iaload, 1) := by decide +kernel
theorem dX0_tell_54 : decode cX0_tell 54 = .ok (.ireturn, 1) := by decide +kernel
theorem dX0_tell_55 : decode cX0_tell 55 = .ok (.aload_n 0, 1) := by decide +kernel
theorem dX0_tell_56 : decode cX0_tell 56 = .ok (.getfield 28, 3) := by decide +kernel
theorem dX0_tell_59 : decode cX0_tell 59 = .ok (.iload_n 1, 1) := by decide +kernel
theorem dX0_tell_60 : decode cX0_tell 60 = .ok (.iaload, 1) := by decide +kernel
theorem dX0_tell_61 : decode cX0_tell 61 = .ok (.ireturn, 1) := by decide +kernel
theorem dX0_tell_62 : decode cX0_tell 62 = .ok (.aload_n 0, 1) := by decide +kernel
theorem dX0_tell_63 : decode cX0_tell 63 = .ok (.getfield 31, 3) := by decide +kernel
theorem dX0_tell_66 : decode cX0_tell 66 = .ok (.iload_n 1, 1) := by decide +kernel
theorem dX0_tell_67 : decode cX0_tell 67 = .ok (.iaload, 1) := by decide +kernel
theorem dX0_tell_68 : decode cX0_tell 68 = .ok (.ireturn, 1) := by decide +kernel
theorem dX0_tell_69 : decode cX0_tell 69 = .ok (.aload_n 0, 1) := by decide +kernel
theorem dX0_tell_70 : decode cX0_tell 70 = .ok (.getfield 34, 3) := by decide +kernel
theorem dX0_tell_73 : decode cX0_tell 73 = .ok (.iload_n 1, 1) := by decide +kernel
theorem dX0_tell_74 : decode cX0_tell 74 = .ok (.iaload, 1) := by decide +kernel
theorem dX0_tell_75 : decode cX0_tell 75 = .ok (.ireturn, 1) := by decide +kernel
theorem dX0_tell_76 : decode cX0_tell 76 = .ok (.aload_n 0, 1) := by decide +kernel
theorem dX0_tell_77 : decode cX0_tell 77 = .ok (.getfield 37, 3) := by decide +kernel
theorem dX0_tell_80 : decode cX0_tell 80 = .ok (.iload_n 1, 1) := by decide +kernel
theorem dX0_tell_81 : decode cX0_tell 81 = .ok (.iaload, 1) := by decide +kernel
theorem dX0_tell_82 : decode cX0_tell 82 = .ok (.ireturn, 1) := by decide +kernel
theorem dX0_tell_83 : decode cX0_tell 83 = .ok (.aload_n 0, 1) := by decide +kernel
theorem dX0_tell_84 : decode cX0_tell 84 = .ok (.getfield 40, 3) := by decide +kernel
theorem dX0_tell_87 : decode cX0_tell 87 = .ok (.iload_n 1, 1) := by decide +kernel
theorem dX0_tell_88 : decode cX0_tell 88 = .ok (.iaload, 1) := by decide +kernel
theorem dX0_tell_89 : decode cX0_tell 89 = .ok (.ireturn, 1) := by decide +kernel
theorem dX0_tell_90 : decode cX0_tell 90 = .ok (.aload_n 0, 1) := by decide +kernel
theorem dX0_tell_91 : decode cX0_tell 91 = .ok (.getfield 43, 3) := by decide +kernel
theorem dX0_tell_94 : decode cX0_tell 94 = .ok (.iload_n 1, 1) := by decide +kernel
theorem dX0_tell_95 : decode cX0_tell 95 = .ok (.iaload, 1) := by decide +kernel
theorem dX0_tell_96 : decode cX0_tell 96 = .ok (.ireturn, 1) := by decide +kernel
theorem dX0_tell_97 : decode cX0_tell 97 = .ok (.aload_n 0, 1) := by decide +kernel
theorem dX0_tell_98 : decode cX0_tell 98 = .ok (.getfield 24, 3) := by decide +kernel
theorem dX0_tell_101 : decode cX0_tell 101 = .ok (.iload_n 1, 1) := by decide +kernel
theorem dX0_tell_102 : decode cX0_tell 102 = .ok (.iaload, 1) := by decide +kernel
theorem dX0_tell_103 : decode cX0_tell 103 = .ok (.aload_n 0, 1) := by decide +kernel
theorem dX0_tell_104 : decode cX0_tell 104 = .ok (.getfield 9, 3) := by decide +kernel
theorem dX0_tell_107 : decode cX0_tell 107 = .ok (.invokestatic 56, 3) := by decide +kernel
theorem dX0_tell_110 : decode cX0_tell 110 = .ok (.ireturn, 1) := by decide +kernel
theorem dX0_tell_111 : decode cX0_tell 111 = .ok (.aload_n 0, 1) := by decide +kernel
theorem dX0_tell_112 : decode cX0_tell 112 = .ok (.getfield 24, 3) := by decide +kernel
theorem dX0_tell_115 : decode cX0_tell 115 = .ok (.iload_n 1, 1) := by decide +kernel
theorem dX0_tell_116 : decode cX0_tell 116 = .ok (.iaload, 1) := by decide +kernel
theorem dX0_tell_117 : decode cX0_tell 117 = .ok (.aload_n 0, 1) := by decide +kernel
theorem dX0_tell_118 : decode cX0_tell 118 = .ok (.getfield 9, 3) := by decide +kernel
theorem dX0_tell_121 : decode cX0_tell 121 = .ok (.invokestatic 60, 3) := by decide +kernel
theorem dX0_tell_124 : decode cX0_tell 124 = .ok (.ireturn, 1) := by decide +kernel
theorem dX0_isFree_0 : decode cX0_isFree 0 = .ok (.aload_n 0, 1) := by decide +kernel
theorem dX0_isFree_1 : decode cX0_isFree 1 = .ok (.getfield 40, 3) := by decide +kernel
theorem dX0_isFree_4 : decode cX0_isFree 4 = .ok (.iload_n 1, 1) := by decide +kernel
theorem dX0_isFree_5 : decode cX0_isFree 5 = .ok (.iaload, 1) := by decide +kernel
theorem dX0_isFree_6 : decode cX0_isFree 6 = .ok (.iconst (-1), 1) := by decide +kernel
theorem dX0_isFree_7 : decode cX0_isFree 7 = .ok (.if_icmp .ne 7, 3) := by decide +kernel
theorem dX0_isFree_10 : decode cX0_isFree 10 = .ok (.iconst 1, 1) := by decide +kernel
theorem dX0_isFree_11 : decode cX0_isFree 11 = .ok (.goto 4, 3) := by decide +kernel
theorem dX0_isFree_14 : decode cX0_isFree 14 = .ok (.iconst 0, 1) := by decide +kernel
theorem dX0_isFree_15 : decode cX0_isFree 15 = .ok (.ireturn, 1) := by decide +kernel
theorem dX0_isGlad_0 : decode cX0_isGlad 0 = .ok (.aload_n 0, 1) := by decide +kernel
theorem dX0_isGlad_1 : decode cX0_isGlad 1 = .ok (.iload_n 1, 1) := by decide +kernel
theorem dX0_isGlad_2 : decode cX0_isGlad 2 = .ok (.invokevirtual 63, 3) := by decide +kernel
theorem dX0_isGlad_5 : decode cX0_isGlad 5 = .ok (.ifCond .ne 32, 3) := by decide +kernel
theorem dX0_isGlad_8 : decode cX0_isGlad 8 = .ok (.aload_n 0, 1) := by decide +kernel
theorem dX0_isGlad_9 : decode cX0_isGlad 9 = .ok (.getfield 40, 3) := by decide +kernel
theorem dX0_isGlad_12 : decode cX0_isGlad 12 = .ok (.iload_n 1, 1) := by decide +kernel
theorem dX0_isGlad_13 : decode cX0_isGlad 13 = .ok (.iaload, 1) := by decide +kernel
theorem dX0_isGlad_14 : decode cX0_isGlad 14 = .ok (.iload_n 1, 1) := by decide +kernel
theorem dX0_isGlad_15 : decode cX0_isGlad 15 = .ok (.if_icmp .eq 22, 3) := by decide +kernel
theorem dX0_isGlad_18 : decode cX0_isGlad 18 = .ok (.aload_n 0, 1) := by decide +kernel
theorem dX0_isGlad_19 : decode cX0_isGlad 19 = .ok (.getfield 43, 3) := by decide +kernel
theorem dX0_isGlad_22 : decode cX0_isGlad 22 = .ok (.iload_n 1, 1) := by decide +kernel
theorem dX0_isGlad_23 : decode cX0_isGlad 23 = .ok (.iaload, 1) := by decide +kernel
theorem dX0_isGlad_24 : decode cX0_isGlad 24 = .ok (.aload_n 0, 1) := by decide +kernel
theorem dX0_isGlad_25 : decode cX0_isGlad 25 = .ok (.getfield 37, 3) := by decide +kernel
theorem dX0_isGlad_28 : decode cX0_isGlad 28 = .ok (.iload_n 1, 1) := by decide +kernel
theorem dX0_isGlad_29 : decode cX0_isGlad 29 = .ok (.iaload, 1) := by decide +kernel
theorem dX0_isGlad_30 : decode cX0_isGlad 30 = .ok (.if_icmp .ne 7, 3) := by decide +kernel
theorem dX0_isGlad_33 : decode cX0_isGlad 33 = .ok (.iconst 1, 1) := by decide +kernel
theorem dX0_isGlad_34 : decode cX0_isGlad 34 = .ok (.goto 4, 3) := by decide +kernel
theorem dX0_isGlad_37 : decode cX0_isGlad 37 = .ok (.iconst 0, 1) := by decide +kernel
theorem dX0_isGlad_38 : decode cX0_isGlad 38 = .ok (.ireturn, 1) := by decide +kernel
theorem dX0_isFoggy_0 : decode cX0_isFoggy 0 = .ok (.aload_n 0, 1) := by decide +kernel
theorem dX0_isFoggy_1 : decode cX0_isFoggy 1 = .ok (.getfield 15, 3) := by decide +kernel
theorem dX0_isFoggy_4 : decode cX0_isFoggy 4 = .ok (.aload_n 0, 1) := by decide +kernel
theorem dX0_isFoggy_5 : decode cX0_isFoggy 5 = .ok (.getfield 9, 3) := by decide +kernel
theorem dX0_isFoggy_8 : decode cX0_isFoggy 8 = .ok (.bipush 24, 2) := by decide +kernel
theorem dX0_isFoggy_10 : decode cX0_isFoggy 10 = .ok (.irem, 1) := by decide +kernel
theorem dX0_isFoggy_11 : decode cX0_isFoggy 11 = .ok (.ishr, 1) := by decide +kernel
theorem dX0_isFoggy_12 : decode cX0_isFoggy 12 = .ok (.iconst 1, 1) := by decide +kernel
theorem dX0_isFoggy_13 : decode cX0_isFoggy 13 = .ok (.iand, 1) := by decide +kernel
theorem dX0_isFoggy_14 : decode cX0_isFoggy 14 = .ok (.iconst 1, 1) := by decide +kernel
theorem dX0_isFoggy_15 : decode cX0_isFoggy 15 = .ok (.if_icmp .ne 7, 3) := by decide +kernel
theorem dX0_isFoggy_18 : decode cX0_isFoggy 18 = .ok (.iconst 1, 1) := by decide +kernel
theorem dX0_isFoggy_19 : decode cX0_isFoggy 19 = .ok (.goto 4, 3) := by decide +kernel
theorem dX0_isFoggy_22 : decode cX0_isFoggy 22 = .ok (.iconst 0, 1) := by decide +kernel
theorem dX0_isFoggy_23 : decode cX0_isFoggy 23 = .ok (.ireturn, 1) := by decide +kernel
theorem dX0_setAt_0 : decode cX0_setAt 0 = .ok (.iconst 0, 1) := by decide +kernel
theorem dX0_setAt_1 : decode cX0_setAt 1 = .ok (.istore_n 2, 1) := by decide +kernel
theorem dX0_setAt_2 : decode cX0_setAt 2 = .ok (.iconst 0, 1) := by decide +kernel
theorem dX0_setAt_3 : decode cX0_setAt 3 = .ok (.istore_n 3, 1) := by decide +kernel
theorem dX0_setAt_4 : decode cX0_setAt 4 = .ok (.iload_n 3, 1) := by decide +kernel
theorem dX0_setAt_5 : decode cX0_setAt 5 = .ok (.aload_n 0, 1) := by decide +kernel
theorem dX0_setAt_6 : decode cX0_setAt 6 = .ok (.getfield 21, 3) := by decide +kernel
theorem dX0_setAt_9 : decode cX0_setAt 9 = .ok (.if_icmp .ge 25, 3) := by decide +kernel
theorem dX0_setAt_12 : decode cX0_setAt 12 = .ok (.aload_n 0, 1) := by decide +kernel
theorem dX0_setAt_13 : decode cX0_setAt 13 = .ok (.getfield 28, 3) := by decide +kernel
theorem dX0_setAt_16 : decode cX0_setAt 16 = .ok (.iload_n 3, 1) := by decide +kernel
theorem dX0_setAt_17 : decode cX0_setAt 17 = .ok (.iaload, 1) := by decide +kernel
theorem dX0_setAt_18 : decode cX0_setAt 18 = .ok (.iload_n 1, 1) := by decide +kernel
theorem dX0_setAt_19 : decode cX0_setAt 19 = .ok (.if_icmp .ne 9, 3) := by decide +kernel
theorem dX0_setAt_22 : decode cX0_setAt 22 = .ok (.iload_n 2, 1) := by decide +kernel
theorem dX0_setAt_23 : decode cX0_setAt 23 = .ok (.iconst 1, 1) := by decide +kernel
theorem dX0_setAt_24 : decode cX0_setAt 24 = .ok (.iload_n 3, 1) := by decide +kernel
theorem dX0_setAt_25 : decode cX0_setAt 25 = .ok (.ishl, 1) := by decide +kernel
theorem dX0_setAt_26 : decode cX0_setAt 26 = .ok (.ior, 1) := by decide +kernel
theorem dX0_setAt_27 : decode cX0_setAt 27 = .ok (.istore_n 2, 1) := by decide +kernel
theorem dX0_setAt_28 : decode cX0_setAt 28 = .ok (.iinc 3 1, 3) := by decide +kernel
theorem dX0_setAt_31 : decode cX0_setAt 31 = .ok (.goto (-27), 3) := by decide +kernel
theorem dX0_setAt_34 : decode cX0_setAt 34 = .ok (.iload_n 2, 1) := by decide +kernel
theorem dX0_setAt_35 : decode cX0_setAt 35 = .ok (.ireturn, 1) := by decide +kernel
theorem dX0_keptSet_0 : decode cX0_keptSet 0 = .ok (.iconst 0, 1) := by decide +kernel
theorem dX0_keptSet_1 : decode cX0_keptSet 1 = .ok (.istore_n 1, 1) := by decide +kernel
theorem dX0_keptSet_2 : decode cX0_keptSet 2 = .ok (.iconst 0, 1) := by decide +kernel
theorem dX0_keptSet_3 : decode cX0_keptSet 3 = .ok (.istore_n 2, 1) := by decide +kernel
theorem dX0_keptSet_4 : decode cX0_keptSet 4 = .ok (.iload_n 2, 1) := by decide +kernel
theorem dX0_keptSet_5 : decode cX0_keptSet 5 = .ok (.aload_n 0, 1) := by decide +kernel
theorem dX0_keptSet_6 : decode cX0_keptSet 6 = .ok (.getfield 21, 3) := by decide +kernel
theorem dX0_keptSet_9 : decode cX0_keptSet 9 = .ok (.if_icmp .ge 23, 3) := by decide +kernel
theorem dX0_keptSet_12 : decode cX0_keptSet 12 = .ok (.aload_n 0, 1) := by decide +kernel
theorem dX0_keptSet_13 : decode cX0_keptSet 13 = .ok (.iload_n 2, 1) := by decide +kernel
theorem dX0_keptSet_14 : decode cX0_keptSet 14 = .ok (.invokevirtual 63, 3) := by decide +kernel
theorem dX0_keptSet_17 : decode cX0_keptSet 17 = .ok (.ifCond .ne 9, 3) := by decide +kernel
theorem dX0_keptSet_20 : decode cX0_keptSet 20 = .ok (.iload_n 1, 1) := by decide +kernel
theorem dX0_keptSet_21 : decode cX0_keptSet 21 = .ok (.iconst 1, 1) := by decide +kernel
theorem dX0_keptSet_22 : decode cX0_keptSet 22 = .ok (.iload_n 2, 1) := by decide +kernel
theorem dX0_keptSet_23 : decode cX0_keptSet 23 = .ok (.ishl, 1) := by decide +kernel
theorem dX0_keptSet_24 : decode cX0_keptSet 24 = .ok (.ior, 1) := by decide +kernel
theorem dX0_keptSet_25 : decode cX0_keptSet 25 = .ok (.istore_n 1, 1) := by decide +kernel
theorem dX0_keptSet_26 : decode cX0_keptSet 26 = .ok (.iinc 2 1, 3) := by decide +kernel
theorem dX0_keptSet_29 : decode cX0_keptSet 29 = .ok (.goto (-25), 3) := by decide +kernel
theorem dX0_keptSet_32 : decode cX0_keptSet 32 = .ok (.iload_n 1, 1) := by decide +kernel
theorem dX0_keptSet_33 : decode cX0_keptSet 33 = .ok (.ireturn, 1) := by decide +kernel
theorem dX0_gladSet_0 : decode cX0_gladSet 0 = .ok (.iconst 0, 1) := by decide +kernel
theorem dX0_gladSet_1 : decode cX0_gladSet 1 = .ok (.istore_n 1, 1) := by decide +kernel
theorem dX0_gladSet_2 : decode cX0_gladSet 2 = .ok (.iconst 0, 1) := by decide +kernel
theorem dX0_gladSet_3 : decode cX0_gladSet 3 = .ok (.istore_n 2, 1) := by decide +kernel
theorem dX0_gladSet_4 : decode cX0_gladSet 4 = .ok (.iload_n 2, 1) := by decide +kernel
theorem dX0_gladSet_5 : decode cX0_gladSet 5 = .ok (.aload_n 0, 1) := by decide +kernel
theorem dX0_gladSet_6 : decode cX0_gladSet 6 = .ok (.getfield 21, 3) := by decide +kernel
theorem dX0_gladSet_9 : decode cX0_gladSet 9 = .ok (.if_icmp .ge 23, 3) := by decide +kernel
theorem dX0_gladSet_12 : decode cX0_gladSet 12 = .ok (.aload_n 0, 1) := by decide +kernel
theorem dX0_gladSet_13 : decode cX0_gladSet 13 = .ok (.iload_n 2, 1) := by decide +kernel
theorem dX0_gladSet_14 : decode cX0_gladSet 14 = .ok (.invokevirtual 67, 3) := by decide +kernel
theorem dX0_gladSet_17 : decode cX0_gladSet 17 = .ok (.ifCond .eq 9, 3) := by decide +kernel
theorem dX0_gladSet_20 : decode cX0_gladSet 20 = .ok (.iload_n 1, 1) := by decide +kernel
theorem dX0_gladSet_21 : decode cX0_gladSet 21 = .ok (.iconst 1, 1) := by decide +kernel
theorem dX0_gladSet_22 : decode cX0_gladSet 22 = .ok (.iload_n 2, 1) := by decide +kernel
theorem dX0_gladSet_23 : decode cX0_gladSet 23 = .ok (.ishl, 1) := by decide +kernel
theorem dX0_gladSet_24 : decode cX0_gladSet 24 = .ok (.ior, 1) := by decide +kernel
theorem dX0_gladSet_25 : decode cX0_gladSet 25 = .ok (.istore_n 1, 1) := by decide +kernel
theorem dX0_gladSet_26 : decode cX0_gladSet 26 = .ok (.iinc 2 1, 3) := by decide +kernel
theorem dX0_gladSet_29 : decode cX0_gladSet 29 = .ok (.goto (-25), 3) := by decide +kernel
theorem dX0_gladSet_32 : decode cX0_gladSet 32 = .ok (.iload_n 1, 1) := by decide +kernel
theorem dX0_gladSet_33 : decode cX0_gladSet 33 = .ok (.ireturn, 1) := by decide +kernel
theorem dX0_moveTo_0 : decode cX0_moveTo 0 = .ok (.aload_n 0, 1) := by decide +kernel
theorem dX0_moveTo_1 : decode cX0_moveTo 1 = .ok (.getfield 28, 3) := by decide +kernel
theorem dX0_moveTo_4 : decode cX0_moveTo 4 = .ok (.iload_n 1, 1) := by decide +kernel
theorem dX0_moveTo_5 : decode cX0_moveTo 5 = .ok (.iload_n 2, 1) := by decide +kernel
theorem dX0_moveTo_6 : decode cX0_moveTo 6 = .ok (.iastore, 1) := by decide +kernel
theorem dX0_moveTo_7 : decode cX0_moveTo 7 = .ok (.aload_n 0, 1) := by decide +kernel
theorem dX0_moveTo_8 : decode cX0_moveTo 8 = .ok (.iload_n 1, 1) := by decide +kernel
theorem dX0_moveTo_9 : decode cX0_moveTo 9 = .ok (.invokevirtual 70, 3) := by decide +kernel
theorem dX0_moveTo_12 : decode cX0_moveTo 12 = .ok (.return_, 1) := by decide +kernel
theorem dX0_release_0 : decode cX0_release 0 = .ok (.aload_n 0, 1) := by decide +kernel
theorem dX0_release_1 : decode cX0_release 1 = .ok (.getfield 40, 3) := by decide +kernel
theorem dX0_release_4 : decode cX0_release 4 = .ok (.iload_n 1, 1) := by decide +kernel
theorem dX0_release_5 : decode cX0_release 5 = .ok (.iaload, 1) := by decide +kernel
theorem dX0_release_6 : decode cX0_release 6 = .ok (.istore_n 2, 1) := by decide +kernel
theorem dX0_release_7 : decode cX0_release 7 = .ok (.aload_n 0, 1) := by decide +kernel
theorem dX0_release_8 : decode cX0_release 8 = .ok (.iload_n 2, 1) := by decide +kernel
theorem dX0_release_9 : decode cX0_release 9 = .ok (.invokevirtual 74, 3) := by decide +kernel
theorem dX0_release_12 : decode cX0_release 12 = .ok (.ifCond .eq 17, 3) := by decide +kernel
theorem dX0_release_15 : decode cX0_release 15 = .ok (.aload_n 0, 1) := by decide +kernel
theorem dX0_release_16 : decode cX0_release 16 = .ok (.getfield 40, 3) := by decide +kernel
theorem dX0_release_19 : decode cX0_release 19 = .ok (.iload_n 2, 1) := by decide +kernel
theorem dX0_release_20 : decode cX0_release 20 = .ok (.iconst (-1), 1) := by decide +kernel
theorem dX0_release_21 : decode cX0_release 21 = .ok (.iastore, 1) := by decide +kernel
theorem dX0_release_22 : decode cX0_release 22 = .ok (.aload_n 0, 1) := by decide +kernel
theorem dX0_release_23 : decode cX0_release 23 = .ok (.getfield 43, 3) := by decide +kernel
theorem dX0_release_26 : decode cX0_release 26 = .ok (.iload_n 2, 1) := by decide +kernel
theorem dX0_release_27 : decode cX0_release 27 = .ok (.iconst (-1), 1) := by decide +kernel
theorem dX0_release_28 : decode cX0_release 28 = .ok (.iastore, 1) := by decide +kernel
theorem dX0_release_29 : decode cX0_release 29 = .ok (.aload_n 0, 1) := by decide +kernel
theorem dX0_release_30 : decode cX0_release 30 = .ok (.getfield 40, 3) := by decide +kernel
theorem dX0_release_33 : decode cX0_release 33 = .ok (.iload_n 1, 1) := by decide +kernel
theorem dX0_release_34 : decode cX0_release 34 = .ok (.iconst (-1), 1) := by decide +kernel
theorem dX0_release_35 : decode cX0_release 35 = .ok (.iastore, 1) := by decide +kernel
theorem dX0_release_36 : decode cX0_release 36 = .ok (.aload_n 0, 1) := by decide +kernel
theorem dX0_release_37 : decode cX0_release 37 = .ok (.getfield 43, 3) := by decide +kernel
theorem dX0_release_40 : decode cX0_release 40 = .ok (.iload_n 1, 1) := by decide +kernel
theorem dX0_release_41 : decode cX0_release 41 = .ok (.iconst (-1), 1) := by decide +kernel
theorem dX0_release_42 : decode cX0_release 42 = .ok (.iastore, 1) := by decide +kernel
theorem dX0_release_43 : decode cX0_release 43 = .ok (.return_, 1) := by decide +kernel
theorem dX0_keepTwo_0 : decode cX0_keepTwo 0 = .ok (.aload_n 0, 1) := by decide +kernel
theorem dX0_keepTwo_1 : decode cX0_keepTwo 1 = .ok (.getfield 40, 3) := by decide +kernel
theorem dX0_keepTwo_4 : decode cX0_keepTwo 4 = .ok (.iload_n 1, 1) := by decide +kernel
theorem dX0_keepTwo_5 : decode cX0_keepTwo 5 = .ok (.iload_n 2, 1) := by decide +kernel
theorem dX0_keepTwo_6 : decode cX0_keepTwo 6 = .ok (.iastore, 1) := by decide +kernel
theorem dX0_keepTwo_7 : decode cX0_keepTwo 7 = .ok (.aload_n 0, 1) := by decide +kernel
theorem dX0_keepTwo_8 : decode cX0_keepTwo 8 = .ok (.getfield 43, 3) := by decide +kernel
theorem dX0_keepTwo_11 : decode cX0_keepTwo 11 = .ok (.iload_n 1, 1) := by decide +kernel
theorem dX0_keepTwo_12 : decode cX0_keepTwo 12 = .ok (.aload_n 0, 1) := by decide +kernel
theorem dX0_keepTwo_13 : decode cX0_keepTwo 13 = .ok (.getfield 37, 3) := by decide +kernel
theorem dX0_keepTwo_16 : decode cX0_keepTwo 16 = .ok (.iload_n 2, 1) := by decide +kernel
theorem dX0_keepTwo_17 : decode cX0_keepTwo 17 = .ok (.iaload, 1) := by decide +kernel
theorem dX0_keepTwo_18 : decode cX0_keepTwo 18 = .ok (.iastore, 1) := by decide +kernel
theorem dX0_keepTwo_19 : decode cX0_keepTwo 19 = .ok (.aload_n 0, 1) := by decide +kernel
theorem dX0_keepTwo_20 : decode cX0_keepTwo 20 = .ok (.getfield 40, 3) := by decide +kernel
theorem dX0_keepTwo_23 : decode cX0_keepTwo 23 = .ok (.iload_n 2, 1) := by decide +kernel
theorem dX0_keepTwo_24 : decode cX0_keepTwo 24 = .ok (.iload_n 1, 1) := by decide +kernel
theorem dX0_keepTwo_25 : decode cX0_keepTwo 25 = .ok (.iastore, 1) := by decide +kernel
theorem dX0_keepTwo_26 : decode cX0_keepTwo 26 = .ok (.aload_n 0, 1) := by decide +kernel
theorem dX0_keepTwo_27 : decode cX0_keepTwo 27 = .ok (.getfield 43, 3) := by decide +kernel
theorem dX0_keepTwo_30 : decode cX0_keepTwo 30 = .ok (.iload_n 2, 1) := by decide +kernel
theorem dX0_keepTwo_31 : decode cX0_keepTwo 31 = .ok (.aload_n 0, 1) := by decide +kernel
theorem dX0_keepTwo_32 : decode cX0_keepTwo 32 = .ok (.getfield 37, 3) := by decide +kernel
theorem dX0_keepTwo_35 : decode cX0_keepTwo 35 = .ok (.iload_n 1, 1) := by decide +kernel
theorem dX0_keepTwo_36 : decode cX0_keepTwo 36 = .ok (.iaload, 1) := by decide +kernel
theorem dX0_keepTwo_37 : decode cX0_keepTwo 37 = .ok (.iastore, 1) := by decide +kernel
theorem dX0_keepTwo_38 : decode cX0_keepTwo 38 = .ok (.return_, 1) := by decide +kernel
theorem dX0_pass_0 : decode cX0_pass 0 = .ok (.iconst 0, 1) := by decide +kernel
theorem dX0_pass_1 : decode cX0_pass 1 = .ok (.istore_n 2, 1) := by decide +kernel
theorem dX0_pass_2 : decode cX0_pass 2 = .ok (.iload_n 2, 1) := by decide +kernel
theorem dX0_pass_3 : decode cX0_pass 3 = .ok (.iload_n 1, 1) := by decide +kernel
theorem dX0_pass_4 : decode cX0_pass 4 = .ok (.if_icmp .ge 13, 3) := by decide +kernel
theorem dX0_pass_7 : decode cX0_pass 7 = .ok (.aload_n 0, 1) := by decide +kernel
theorem dX0_pass_8 : decode cX0_pass 8 = .ok (.invokevirtual 77, 3) := by decide +kernel
theorem dX0_pass_11 : decode cX0_pass 11 = .ok (.iinc 2 1, 3) := by decide +kernel
theorem dX0_pass_14 : decode cX0_pass 14 = .ok (.goto (-12), 3) := by decide +kernel
theorem dX0_pass_17 : decode cX0_pass 17 = .ok (.return_, 1) := by decide +kernel
theorem dX0_passHour_0 : decode cX0_passHour 0 = .ok (.aload_n 0, 1) := by decide +kernel
theorem dX0_passHour_1 : decode cX0_passHour 1 = .ok (.invokevirtual 80, 3) := by decide +kernel
theorem dX0_passHour_4 : decode cX0_passHour 4 = .ok (.istore_n 1, 1) := by decide +kernel
theorem dX0_passHour_5 : decode cX0_passHour 5 = .ok (.iload_n 1, 1) := by decide +kernel
theorem dX0_passHour_6 : decode cX0_passHour 6 = .ok (.ifCond .ne 7, 3) := by decide +kernel
theorem dX0_passHour_9 : decode cX0_passHour 9 = .ok (.aload_n 0, 1) := by decide +kernel
theorem dX0_passHour_10 : decode cX0_passHour 10 = .ok (.invokevirtual 83, 3) := by decide +kernel
theorem dX0_passHour_13 : decode cX0_passHour 13 = .ok (.iconst 0, 1) := by decide +kernel
theorem dX0_passHour_14 : decode cX0_passHour 14 = .ok (.istore_n 2, 1) := by decide +kernel
theorem dX0_passHour_15 : decode cX0_passHour 15 = .ok (.iload_n 2, 1) := by decide +kernel
theorem dX0_passHour_16 : decode cX0_passHour 16 = .ok (.aload_n 0, 1) := by decide +kernel
theorem dX0_passHour_17 : decode cX0_passHour 17 = .ok (.getfield 21, 3) := by decide +kernel
theorem dX0_passHour_20 : decode cX0_passHour 20 = .ok (.if_icmp .ge 37, 3) := by decide +kernel
theorem dX0_passHour_23 : decode cX0_passHour 23 = .ok (.aload_n 0, 1) := by decide +kernel
theorem dX0_passHour_24 : decode cX0_passHour 24 = .ok (.iload_n 2, 1) := by decide +kernel
theorem dX0_passHour_25 : decode cX0_passHour 25 = .ok (.invokevirtual 63, 3) := by decide +kernel
theorem dX0_passHour_28 : decode cX0_passHour 28 = .ok (.ifCond .ne 13, 3) := by decide +kernel
theorem dX0_passHour_31 : decode cX0_passHour 31 = .ok (.aload_n 0, 1) := by decide +kernel
theorem dX0_passHour_32 : decode cX0_passHour 32 = .ok (.getfield 40, 3) := by decide +kernel
theorem dX0_passHour_35 : decode cX0_passHour 35 = .ok (.iload_n 2, 1) := by decide +kernel
theorem dX0_passHour_36 : decode cX0_passHour 36 = .ok (.iaload, 1) := by decide +kernel
theorem dX0_passHour_37 : decode cX0_passHour 37 = .ok (.iload_n 2, 1) := by decide +kernel
theorem dX0_passHour_38 : decode cX0_passHour 38 = .ok (.if_icmp .lt 13, 3) := by decide +kernel
theorem dX0_passHour_41 : decode cX0_passHour 41 = .ok (.aload_n 0, 1) := by decide +kernel
theorem dX0_passHour_42 : decode cX0_passHour 42 = .ok (.iload_n 2, 1) := by decide +kernel
theorem dX0_passHour_43 : decode cX0_passHour 43 = .ok (.invokevirtual 86, 3) := by decide +kernel
theorem dX0_passHour_46 : decode cX0_passHour 46 = .ok (.aload_n 0, 1) := by decide +kernel
theorem dX0_passHour_47 : decode cX0_passHour 47 = .ok (.iload_n 2, 1) := by decide +kernel
theorem dX0_passHour_48 : decode cX0_passHour 48 = .ok (.invokevirtual 70, 3) := by decide +kernel
theorem dX0_passHour_51 : decode cX0_passHour 51 = .ok (.iinc 2 1, 3) := by decide +kernel
theorem dX0_passHour_54 : decode cX0_passHour 54 = .ok (.goto (-39), 3) := by decide +kernel
theorem dX0_passHour_57 : decode cX0_passHour 57 = .ok (.iload_n 1, 1) := by decide +kernel
theorem dX0_passHour_58 : decode cX0_passHour 58 = .ok (.ifCond .eq 7, 3) := by decide +kernel
theorem dX0_passHour_61 : decode cX0_passHour 61 = .ok (.aload_n 0, 1) := by decide +kernel
theorem dX0_passHour_62 : decode cX0_passHour 62 = .ok (.invokevirtual 89, 3) := by decide +kernel
theorem dX0_passHour_65 : decode cX0_passHour 65 = .ok (.aload_n 0, 1) := by decide +kernel
theorem dX0_passHour_66 : decode cX0_passHour 66 = .ok (.dup, 1) := by decide +kernel
theorem dX0_passHour_67 : decode cX0_passHour 67 = .ok (.getfield 9, 3) := by decide +kernel
theorem dX0_passHour_70 : decode cX0_passHour 70 = .ok (.iconst 1, 1) := by decide +kernel
theorem dX0_passHour_71 : decode cX0_passHour 71 = .ok (.iadd, 1) := by decide +kernel
theorem dX0_passHour_72 : decode cX0_passHour 72 = .ok (.putfield 9, 3) := by decide +kernel
theorem dX0_passHour_75 : decode cX0_passHour 75 = .ok (.return_, 1) := by decide +kernel
theorem dX0_lift_0 : decode cX0_lift 0 = .ok (.iconst 0, 1) := by decide +kernel
theorem dX0_lift_1 : decode cX0_lift 1 = .ok (.istore_n 1, 1) := by decide +kernel
theorem dX0_lift_2 : decode cX0_lift 2 = .ok (.iload_n 1, 1) := by decide +kernel
theorem dX0_lift_3 : decode cX0_lift 3 = .ok (.aload_n 0, 1) := by decide +kernel
theorem dX0_lift_4 : decode cX0_lift 4 = .ok (.getfield 21, 3) := by decide +kernel
theorem dX0_lift_7 : decode cX0_lift 7 = .ok (.if_icmp .ge 36, 3) := by decide +kernel
theorem dX0_lift_10 : decode cX0_lift 10 = .ok (.aload_n 0, 1) := by decide +kernel
theorem dX0_lift_11 : decode cX0_lift 11 = .ok (.getfield 28, 3) := by decide +kernel
theorem dX0_lift_14 : decode cX0_lift 14 = .ok (.iload_n 1, 1) := by decide +kernel
theorem dX0_lift_15 : decode cX0_lift 15 = .ok (.iaload, 1) := by decide +kernel
theorem dX0_lift_16 : decode cX0_lift 16 = .ok (.aload_n 0, 1) := by decide +kernel
theorem dX0_lift_17 : decode cX0_lift 17 = .ok (.getfield 18, 3) := by decide +kernel
theorem dX0_lift_20 : decode cX0_lift 20 = .ok (.if_icmp .eq 17, 3) := by decide +kernel
theorem dX0_lift_23 : decode cX0_lift 23 = .ok (.aload_n 0, 1) := by decide +kernel
theorem dX0_lift_24 : decode cX0_lift 24 = .ok (.getfield 40, 3) := by decide +kernel
theorem dX0_lift_27 : decode cX0_lift 27 = .ok (.iload_n 1, 1) := by decide +kernel
theorem dX0_lift_28 : decode cX0_lift 28 = .ok (.iconst (-1), 1) := by decide +kernel
theorem dX0_lift_29 : decode cX0_lift 29 = .ok (.iastore, 1) := by decide +kernel
theorem dX0_lift_30 : decode cX0_lift 30 = .ok (.aload_n 0, 1) := by decide +kernel
theorem dX0_lift_31 : decode cX0_lift 31 = .ok (.getfield 43, 3) := by decide +kernel
theorem dX0_lift_34 : decode cX0_lift 34 = .ok (.iload_n 1, 1) := by decide +kernel
theorem dX0_lift_35 : decode cX0_lift 35 = .ok (.iconst (-1), 1) := by decide +kernel
theorem dX0_lift_36 : decode cX0_lift 36 = .ok (.iastore, 1) := by decide +kernel
theorem dX0_lift_37 : decode cX0_lift 37 = .ok (.iinc 1 1, 3) := by decide +kernel
theorem dX0_lift_40 : decode cX0_lift 40 = .ok (.goto (-38), 3) := by decide +kernel
theorem dX0_lift_43 : decode cX0_lift 43 = .ok (.return_, 1) := by decide +kernel
theorem dX0_go_0 : decode cX0_go 0 = .ok (.aload_n 0, 1) := by decide +kernel
theorem dX0_go_1 : decode cX0_go 1 = .ok (.getfield 34, 3) := by decide +kernel
theorem dX0_go_4 : decode cX0_go 4 = .ok (.iload_n 1, 1) := by decide +kernel
theorem dX0_go_5 : decode cX0_go 5 = .ok (.aload_n 0, 1) := by decide +kernel
theorem dX0_go_6 : decode cX0_go 6 = .ok (.getfield 34, 3) := by decide +kernel
theorem dX0_go_9 : decode cX0_go 9 = .ok (.iload_n 1, 1) := by decide +kernel
theorem dX0_go_10 : decode cX0_go 10 = .ok (.iaload, 1) := by decide +kernel
theorem dX0_go_11 : decode cX0_go 11 = .ok (.aload_n 0, 1) := by decide +kernel
theorem dX0_go_12 : decode cX0_go 12 = .ok (.getfield 24, 3) := by decide +kernel
theorem dX0_go_15 : decode cX0_go 15 = .ok (.iload_n 1, 1) := by decide +kernel
theorem dX0_go_16 : decode cX0_go 16 = .ok (.iaload, 1) := by decide +kernel
theorem dX0_go_17 : decode cX0_go 17 = .ok (.aload_n 0, 1) := by decide +kernel
theorem dX0_go_18 : decode cX0_go 18 = .ok (.getfield 9, 3) := by decide +kernel
theorem dX0_go_21 : decode cX0_go 21 = .ok (.invokestatic 60, 3) := by decide +kernel
theorem dX0_go_24 : decode cX0_go 24 = .ok (.iadd, 1) := by decide +kernel
theorem dX0_go_25 : decode cX0_go 25 = .ok (.iconst 4, 1) := by decide +kernel
theorem dX0_go_26 : decode cX0_go 26 = .ok (.irem, 1) := by decide +kernel
theorem dX0_go_27 : decode cX0_go 27 = .ok (.iastore, 1) := by decide +kernel
theorem dX0_go_28 : decode cX0_go 28 = .ok (.aload_n 0, 1) := by decide +kernel
theorem dX0_go_29 : decode cX0_go 29 = .ok (.getfield 24, 3) := by decide +kernel
theorem dX0_go_32 : decode cX0_go 32 = .ok (.iload_n 1, 1) := by decide +kernel
theorem dX0_go_33 : decode cX0_go 33 = .ok (.iaload, 1) := by decide +kernel
theorem dX0_go_34 : decode cX0_go 34 = .ok (.aload_n 0, 1) := by decide +kernel
theorem dX0_go_35 : decode cX0_go 35 = .ok (.getfield 9, 3) := by decide +kernel
theorem dX0_go_38 : decode cX0_go 38 = .ok (.invokestatic 56, 3) := by decide +kernel
theorem dX0_go_41 : decode cX0_go 41 = .ok (.istore_n 2, 1) := by decide +kernel
theorem dX0_go_42 : decode cX0_go 42 = .ok (.iconst 0, 1) := by decide +kernel
theorem dX0_go_43 : decode cX0_go 43 = .ok (.istore_n 3, 1) := by decide +kernel
theorem dX0_go_44 : decode cX0_go 44 = .ok (.iload_n 3, 1) := by decide +kernel
theorem dX0_go_45 : decode cX0_go 45 = .ok (.iload_n 2, 1) := by decide +kernel
theorem dX0_go_46 : decode cX0_go 46 = .ok (.if_icmp .ge 58, 3) := by decide +kernel
theorem dX0_go_49 : decode cX0_go 49 = .ok (.aload_n 0, 1) := by decide +kernel
theorem dX0_go_50 : decode cX0_go 50 = .ok (.getfield 28, 3) := by decide +kernel
theorem dX0_go_53 : decode cX0_go 53 = .ok (.iload_n 1, 1) := by decide +kernel
theorem dX0_go_54 : decode cX0_go 54 = .ok (.iaload, 1) := by decide +kernel
theorem dX0_go_55 : decode cX0_go 55 = .ok (.aload_n 0, 1) := by decide +kernel
theorem dX0_go_56 : decode cX0_go 56 = .ok (.getfield 34, 3) := by decide +kernel
theorem dX0_go_59 : decode cX0_go 59 = .ok (.iload_n 1, 1) := by decide +kernel
theorem dX0_go_60 : decode cX0_go 60 = .ok (.iaload, 1) := by decide +kernel
theorem dX0_go_61 : decode cX0_go 61 = .ok (.invokestatic 92, 3) := by decide +kernel
theorem dX0_go_64 : decode cX0_go 64 = .ok (.istore 4, 2) := by decide +kernel
theorem dX0_go_66 : decode cX0_go 66 = .ok (.iload 4, 2) := by decide +kernel
theorem dX0_go_68 : decode cX0_go 68 = .ok (.ifCond .lt 14, 3) := by decide +kernel
theorem dX0_go_71 : decode cX0_go 71 = .ok (.aload_n 0, 1) := by decide +kernel
theorem dX0_go_72 : decode cX0_go 72 = .ok (.getfield 28, 3) := by decide +kernel
theorem dX0_go_75 : decode cX0_go 75 = .ok (.iload_n 1, 1) := by decide +kernel
theorem dX0_go_76 : decode cX0_go 76 = .ok (.iload 4, 2) := by decide +kernel
theorem dX0_go_78 : decode cX0_go 78 = .ok (.iastore, 1) := by decide +kernel
theorem dX0_go_79 : decode cX0_go 79 = .ok (.goto 19, 3) := by decide +kernel
theorem dX0_go_82 : decode cX0_go 82 = .ok (.aload_n 0, 1) := by decide +kernel
theorem dX0_go_83 : decode cX0_go 83 = .ok (.getfield 34, 3) := by decide +kernel
theorem dX0_go_86 : decode cX0_go 86 = .ok (.iload_n 1, 1) := by decide +kernel
theorem dX0_go_87 : decode cX0_go 87 = .ok (.aload_n 0, 1) := by decide +kernel
theorem dX0_go_88 : decode cX0_go 88 = .ok (.getfield 34, 3) := by decide +kernel
theorem dX0_go_91 : decode cX0_go 91 = .ok (.iload_n 1, 1) := by decide +kernel
theorem dX0_go_92 : decode cX0_go 92 = .ok (.iaload, 1) := by decide +kernel
theorem dX0_go_93 : decode cX0_go 93 = .ok (.iconst 1, 1) := by decide +kernel
theorem dX0_go_94 : decode cX0_go 94 = .ok (.iadd, 1) := by decide +kernel
theorem dX0_go_95 : decode cX0_go 95 = .ok (.iconst 4, 1) := by decide +kernel
theorem dX0_go_96 : decode cX0_go 96 = .ok (.irem, 1) := by decide +kernel
theorem dX0_go_97 : decode cX0_go 97 = .ok (.iastore, 1) := by decide +kernel
theorem dX0_go_98 : decode cX0_go 98 = .ok (.iinc 3 1, 3) := by decide +kernel
theorem dX0_go_101 : decode cX0_go 101 = .ok (.goto (-57), 3) := by decide +kernel
theorem dX0_go_104 : decode cX0_go 104 = .ok (.return_, 1) := by decide +kernel
theorem dX0_bringAlong_0 : decode cX0_bringAlong 0 = .ok (.aload_n 0, 1) := by decide +kernel
theorem dX0_bringAlong_1 : decode cX0_bringAlong 1 = .ok (.getfield 40, 3) := by decide +kernel
theorem dX0_bringAlong_4 : decode cX0_bringAlong 4 = .ok (.iload_n 1, 1) := by decide +kernel
theorem dX0_bringAlong_5 : decode cX0_bringAlong 5 = .ok (.iaload, 1) := by decide +kernel
theorem dX0_bringAlong_6 : decode cX0_bringAlong 6 = .ok (.istore_n 2, 1) := by decide +kernel
theorem dX0_bringAlong_7 : decode cX0_bringAlong 7 = .ok (.aload_n 0, 1) := by decide +kernel
theorem dX0_bringAlong_8 : decode cX0_bringAlong 8 = .ok (.iload_n 2, 1) := by decide +kernel
theorem dX0_bringAlong_9 : decode cX0_bringAlong 9 = .ok (.invokevirtual 74, 3) := by decide +kernel
theorem dX0_bringAlong_12 : decode cX0_bringAlong 12 = .ok (.ifCond .eq 15, 3) := by decide +kernel
theorem dX0_bringAlong_15 : decode cX0_bringAlong 15 = .ok (.aload_n 0, 1) := by decide +kernel
theorem dX0_bringAlong_16 : decode cX0_bringAlong 16 = .ok (.getfield 28, 3) := by decide +kernel
theorem dX0_bringAlong_19 : decode cX0_bringAlong 19 = .ok (.iload_n 2, 1) := by decide +kernel
theorem dX0_bringAlong_20 : decode cX0_bringAlong 20 = .ok (.aload_n 0, 1) := by decide +kernel
theorem dX0_bringAlong_21 : decode cX0_bringAlong 21 = .ok (.getfield 28, 3) := by decide +kernel
theorem dX0_bringAlong_24 : decode cX0_bringAlong 24 = .ok (.iload_n 1, 1) := by decide +kernel
theorem dX0_bringAlong_25 : decode cX0_bringAlong 25 = .ok (.iaload, 1) := by decide +kernel
theorem dX0_bringAlong_26 : decode cX0_bringAlong 26 = .ok (.iastore, 1) := by decide +kernel
theorem dX0_bringAlong_27 : decode cX0_bringAlong 27 = .ok (.return_, 1) := by decide +kernel
theorem dX0_collide_0 : decode cX0_collide 0 = .ok (.iconst 0, 1) := by decide +kernel
theorem dX0_collide_1 : decode cX0_collide 1 = .ok (.istore_n 1, 1) := by decide +kernel
theorem dX0_collide_2 : decode cX0_collide 2 = .ok (.iload_n 1, 1) := by decide +kernel
theorem dX0_collide_3 : decode cX0_collide 3 = .ok (.aload_n 0, 1) := by decide +kernel
theorem dX0_collide_4 : decode cX0_collide 4 = .ok (.getfield 21, 3) := by decide +kernel
theorem dX0_collide_7 : decode cX0_collide 7 = .ok (.if_icmp .ge 71, 3) := by decide +kernel
theorem dX0_collide_10 : decode cX0_collide 10 = .ok (.aload_n 0, 1) := by decide +kernel
theorem dX0_collide_11 : decode cX0_collide 11 = .ok (.iload_n 1, 1) := by decide +kernel
theorem dX0_collide_12 : decode cX0_collide 12 = .ok (.invokevirtual 63, 3) := by decide +kernel
theorem dX0_collide_15 : decode cX0_collide 15 = .ok (.ifCond .eq 57, 3) := by decide +kernel
theorem dX0_collide_18 : decode cX0_collide 18 = .ok (.aload_n 0, 1) := by decide +kernel
theorem dX0_collide_19 : decode cX0_collide 19 = .ok (.iload_n 1, 1) := by decide +kernel
theorem dX0_collide_20 : decode cX0_collide 20 = .ok (.invokevirtual 95, 3) := by decide +kernel
theorem dX0_collide_23 : decode cX0_collide 23 = .ok (.istore_n 2, 1) := by decide +kernel
theorem dX0_collide_24 : decode cX0_collide 24 = .ok (.aload_n 0, 1) := by decide +kernel
theorem dX0_collide_25 : decode cX0_collide 25 = .ok (.iload_n 2, 1) := by decide +kernel
theorem dX0_collide_26 : decode cX0_collide 26 = .ok (.invokevirtual 74, 3) := by decide +kernel
theorem dX0_collide_29 : decode cX0_collide 29 = .ok (.ifCond .eq 12, 3) := by decide +kernel
theorem dX0_collide_32 : decode cX0_collide 32 = .ok (.aload_n 0, 1) := by decide +kernel
theorem dX0_collide_33 : decode cX0_collide 33 = .ok (.iload_n 1, 1) := by decide +kernel
theorem dX0_collide_34 : decode cX0_collide 34 = .ok (.iload_n 2, 1) := by decide +kernel
theorem dX0_collide_35 : decode cX0_collide 35 = .ok (.invokevirtual 99, 3) := by decide +kernel
theorem dX0_collide_38 : decode cX0_collide 38 = .ok (.goto 34, 3) := by decide +kernel
theorem dX0_collide_41 : decode cX0_collide 41 = .ok (.aload_n 0, 1) := by decide +kernel
theorem dX0_collide_42 : decode cX0_collide 42 = .ok (.getfield 24, 3) := by decide +kernel
theorem dX0_collide_45 : decode cX0_collide 45 = .ok (.iload_n 1, 1) := by decide +kernel
theorem dX0_collide_46 : decode cX0_collide 46 = .ok (.iaload, 1) := by decide +kernel
theorem dX0_collide_47 : decode cX0_collide 47 = .ok (.iconst 5, 1) := by decide +kernel
theorem dX0_collide_48 : decode cX0_collide 48 = .ok (.if_icmp .ne 24, 3) := by decide +kernel
theorem dX0_collide_51 : decode cX0_collide 51 = .ok (.aload_n 0, 1) := by decide +kernel
theorem dX0_collide_52 : decode cX0_collide 52 = .ok (.getfield 28, 3) := by decide +kernel
theorem dX0_collide_55 : decode cX0_collide 55 = .ok (.iload_n 1, 1) := by decide +kernel
theorem dX0_collide_56 : decode cX0_collide 56 = .ok (.iaload, 1) := by decide +kernel
theorem dX0_collide_57 : decode cX0_collide 57 = .ok (.aload_n 0, 1) := by decide +kernel
theorem dX0_collide_58 : decode cX0_collide 58 = .ok (.getfield 31, 3) := by decide +kernel
theorem dX0_collide_61 : decode cX0_collide 61 = .ok (.iload_n 1, 1) := by decide +kernel
theorem dX0_collide_62 : decode cX0_collide 62 = .ok (.iaload, 1) := by decide +kernel
theorem dX0_collide_63 : decode cX0_collide 63 = .ok (.if_icmp .ne 9, 3) := by decide +kernel
theorem dX0_collide_66 : decode cX0_collide 66 = .ok (.aload_n 0, 1) := by decide +kernel
theorem dX0_collide_67 : decode cX0_collide 67 = .ok (.iload_n 1, 1) := by decide +kernel
theorem dX0_collide_68 : decode cX0_collide 68 = .ok (.iload_n 1, 1) := by decide +kernel
theorem dX0_collide_69 : decode cX0_collide 69 = .ok (.invokevirtual 99, 3) := by decide +kernel
theorem dX0_collide_72 : decode cX0_collide 72 = .ok (.iinc 1 1, 3) := by decide +kernel
theorem dX0_collide_75 : decode cX0_collide 75 = .ok (.goto (-73), 3) := by decide +kernel
theorem dX0_collide_78 : decode cX0_collide 78 = .ok (.return_, 1) := by decide +kernel
theorem dX0_nextFreeBeside_0 : decode cX0_nextFreeBeside 0 = .ok (.iload_n 1, 1) := by decide +kernel
theorem dX0_nextFreeBeside_1 : decode cX0_nextFreeBeside 1 = .ok (.iconst 1, 1) := by decide +kernel
theorem dX0_nextFreeBeside_2 : decode cX0_nextFreeBeside 2 = .ok (.iadd, 1) := by decide +kernel
theorem dX0_nextFreeBeside_3 : decode cX0_nextFreeBeside 3 = .ok (.istore_n 2, 1) := by decide +kernel
theorem dX0_nextFreeBeside_4 : decode cX0_nextFreeBeside 4 = .ok (.iload_n 2, 1) := by decide +kernel
theorem dX0_nextFreeBeside_5 : decode cX0_nextFreeBeside 5 = .ok (.aload_n 0, 1) := by decide +kernel
theorem dX0_nextFreeBeside_6 : decode cX0_nextFreeBeside 6 = .ok (.getfield 21, 3) := by decide +kernel
theorem dX0_nextFreeBeside_9 : decode cX0_nextFreeBeside 9 = .ok (.if_icmp .ge 34, 3) := by decide +kernel
theorem dX0_nextFreeBeside_12 : decode cX0_nextFreeBeside 12 = .ok (.aload_n 0, 1) := by decide +kernel
theorem dX0_nextFreeBeside_13 : decode cX0_nextFreeBeside 13 = .ok (.getfield 28, 3) := by decide +kernel
theorem dX0_nextFreeBeside_16 : decode cX0_nextFreeBeside 16 = .ok (.iload_n 2, 1) := by decide +kernel
theorem dX0_nextFreeBeside_17 : decode cX0_nextFreeBeside 17 = .ok (.iaload, 1) := by decide +kernel
theorem dX0_nextFreeBeside_18 : decode cX0_nextFreeBeside 18 = .ok (.aload_n 0, 1) := by decide +kernel
theorem dX0_nextFreeBeside_19 : decode cX0_nextFreeBeside 19 = .ok (.getfield 28, 3) := by decide +kernel
theorem dX0_nextFreeBeside_22 : decode cX0_nextFreeBeside 22 = .ok (.iload_n 1, 1) := by decide +kernel
theorem dX0_nextFreeBeside_23 : decode cX0_nextFreeBeside 23 = .ok (.iaload, 1) := by decide +kernel
theorem dX0_nextFreeBeside_24 : decode cX0_nextFreeBeside 24 = .ok (.if_icmp .ne 13, 3) := by decide +kernel
theorem dX0_nextFreeBeside_27 : decode cX0_nextFreeBeside 27 = .ok (.aload_n 0, 1) := by decide +kernel
theorem dX0_nextFreeBeside_28 : decode cX0_nextFreeBeside 28 = .ok (.iload_n 2, 1) := by decide +kernel
theorem dX0_nextFreeBeside_29 : decode cX0_nextFreeBeside 29 = .ok (.invokevirtual 63, 3) := by decide +kernel
theorem dX0_nextFreeBeside_32 : decode cX0_nextFreeBeside 32 = .ok (.ifCond .eq 5, 3) := by decide +kernel
theorem dX0_nextFreeBeside_35 : decode cX0_nextFreeBeside 35 = .ok (.iload_n 2, 1) := by decide +kernel
theorem dX0_nextFreeBeside_36 : decode cX0_nextFreeBeside 36 = .ok (.ireturn, 1) := by decide +kernel
theorem dX0_nextFreeBeside_37 : decode cX0_nextFreeBeside 37 = .ok (.iinc 2 1, 3) := by decide +kernel
theorem dX0_nextFreeBeside_40 : decode cX0_nextFreeBeside 40 = .ok (.goto (-36), 3) := by decide +kernel
theorem dX0_nextFreeBeside_43 : decode cX0_nextFreeBeside 43 = .ok (.iconst (-1), 1) := by decide +kernel
theorem dX0_nextFreeBeside_44 : decode cX0_nextFreeBeside 44 = .ok (.ireturn, 1) := by decide +kernel
theorem dX1_init_0 : decode cX1_init 0 = .ok (.aload_n 0, 1) := by decide +kernel
theorem dX1_init_1 : decode cX1_init 1 = .ok (.invokespecial 3, 3) := by decide +kernel
theorem dX1_init_4 : decode cX1_init 4 = .ok (.aload_n 0, 1) := by decide +kernel
theorem dX1_init_5 : decode cX1_init 5 = .ok (.iconst 0, 1) := by decide +kernel
theorem dX1_init_6 : decode cX1_init 6 = .ok (.putfield 9, 3) := by decide +kernel
theorem dX1_init_9 : decode cX1_init 9 = .ok (.aload_n 0, 1) := by decide +kernel
theorem dX1_init_10 : decode cX1_init 10 = .ok (.iconst 0, 1) := by decide +kernel
theorem dX1_init_11 : decode cX1_init 11 = .ok (.putfield 15, 3) := by decide +kernel
theorem dX1_init_14 : decode cX1_init 14 = .ok (.aload_n 0, 1) := by decide +kernel
theorem dX1_init_15 : decode cX1_init 15 = .ok (.bipush 40, 2) := by decide +kernel
theorem dX1_init_17 : decode cX1_init 17 = .ok (.newarray .long, 2) := by decide +kernel
theorem dX1_init_19 : decode cX1_init 19 = .ok (.putfield 18, 3) := by decide +kernel
theorem dX1_init_22 : decode cX1_init 22 = .ok (.return_, 1) := by decide +kernel
theorem dX1_isMissing_0 : decode cX1_isMissing 0 = .ok (.aload_n 0, 1) := by decide +kernel
theorem dX1_isMissing_1 : decode cX1_isMissing 1 = .ok (.getfield 9, 3) := by decide +kernel
theorem dX1_isMissing_4 : decode cX1_isMissing 4 = .ok (.ifCond .ne 7, 3) := by decide +kernel
theorem dX1_isMissing_7 : decode cX1_isMissing 7 = .ok (.iconst 1, 1) := by decide +kernel
theorem dX1_isMissing_8 : decode cX1_isMissing 8 = .ok (.goto 4, 3) := by decide +kernel
theorem dX1_isMissing_11 : decode cX1_isMissing 11 = .ok (.iconst 0, 1) := by decide +kernel
theorem dX1_isMissing_12 : decode cX1_isMissing 12 = .ok (.ireturn, 1) := by decide +kernel
theorem dX1_layOut_0 : decode cX1_layOut 0 = .ok (.aload_n 0, 1) := by decide +kernel
theorem dX1_layOut_1 : decode cX1_layOut 1 = .ok (.iload_n 1, 1) := by decide +kernel
theorem dX1_layOut_2 : decode cX1_layOut 2 = .ok (.putfield 9, 3) := by decide +kernel
theorem dX1_layOut_5 : decode cX1_layOut 5 = .ok (.aload_n 0, 1) := by decide +kernel
theorem dX1_layOut_6 : decode cX1_layOut 6 = .ok (.iload_n 1, 1) := by decide +kernel
theorem dX1_layOut_7 : decode cX1_layOut 7 = .ok (.ifCond .ne 7, 3) := by decide +kernel
theorem dX1_layOut_10 : decode cX1_layOut 10 = .ok (.iconst 0, 1) := by decide +kernel
theorem dX1_layOut_11 : decode cX1_layOut 11 = .ok (.goto 4, 3) := by decide +kernel
theorem dX1_layOut_14 : decode cX1_layOut 14 = .ok (.iload_n 2, 1) := by decide +kernel
theorem dX1_layOut_15 : decode cX1_layOut 15 = .ok (.putfield 15, 3) := by decide +kernel
theorem dX1_layOut_18 : decode cX1_layOut 18 = .ok (.iconst 0, 1) := by decide +kernel
theorem dX1_layOut_19 : decode cX1_layOut 19 = .ok (.istore_n 3, 1) := by decide +kernel
theorem dX1_layOut_20 : decode cX1_layOut 20 = .ok (.iload_n 3, 1) := by decide +kernel
theorem dX1_layOut_21 : decode cX1_layOut 21 = .ok (.bipush 40, 2) := by decide +kernel
theorem dX1_layOut_23 : decode cX1_layOut 23 = .ok (.if_icmp .ge 16, 3) := by decide +kernel
theorem dX1_layOut_26 : decode cX1_layOut 26 = .ok (.aload_n 0, 1) := by decide +kernel
theorem dX1_layOut_27 : decode cX1_layOut 27 = .ok (.getfield 18, 3) := by decide +kernel
theorem dX1_layOut_30 : decode cX1_layOut 30 = .ok (.iload_n 3, 1) := by decide +kernel
theorem dX1_layOut_31 : decode cX1_layOut 31 = .ok (.lconst 0, 1) := by decide +kernel
theorem dX1_layOut_32 : decode cX1_layOut 32 = .ok (.lastore, 1) := by decide +kernel
theorem dX1_layOut_33 : decode cX1_layOut 33 = .ok (.iinc 3 1, 3) := by decide +kernel
theorem dX1_layOut_36 : decode cX1_layOut 36 = .ok (.goto (-16), 3) := by decide +kernel
theorem dX1_layOut_39 : decode cX1_layOut 39 = .ok (.return_, 1) := by decide +kernel
theorem dX1_put_0 : decode cX1_put 0 = .ok (.aload_n 0, 1) := by decide +kernel
theorem dX1_put_1 : decode cX1_put 1 = .ok (.getfield 9, 3) := by decide +kernel
theorem dX1_put_4 : decode cX1_put 4 = .ok (.bipush 8, 2) := by decide +kernel
theorem dX1_put_6 : decode cX1_put 6 = .ok (.if_icmp .ne 16, 3) := by decide +kernel
theorem dX1_put_9 : decode cX1_put 9 = .ok (.aload_n 0, 1) := by decide +kernel
theorem dX1_put_10 : decode cX1_put 10 = .ok (.getfield 18, 3) := by decide +kernel
theorem dX1_put_13 : decode cX1_put 13 = .ok (.iload_n 1, 1) := by decide +kernel
theorem dX1_put_14 : decode cX1_put 14 = .ok (.lload_n 2, 1) := by decide +kernel
theorem dX1_put_15 : decode cX1_put 15 = .ok (.l2i, 1) := by decide +kernel
theorem dX1_put_16 : decode cX1_put 16 = .ok (.i2b, 1) := by decide +kernel
theorem dX1_put_17 : decode cX1_put 17 = .ok (.i2l, 1) := by decide +kernel
theorem dX1_put_18 : decode cX1_put 18 = .ok (.lastore, 1) := by decide +kernel
theorem dX1_put_19 : decode cX1_put 19 = .ok (.goto 32, 3) := by decide +kernel
theorem dX1_put_22 : decode cX1_put 22 = .ok (.aload_n 0, 1) := by decide +kernel
theorem dX1_put_23 : decode cX1_put 23 = .ok (.getfield 9, 3) := by decide +kernel
theorem dX1_put_26 : decode cX1_put 26 = .ok (.bipush 16, 2) := by decide +kernel
theorem dX1_put_28 : decode cX1_put 28 = .ok (.if_icmp .ne 16, 3) := by decide +kernel
theorem dX1_put_31 : decode cX1_put 31 = .ok (.aload_n 0, 1) := by decide +kernel
theorem dX1_put_32 : decode cX1_put 32 = .ok (.getfield 18, 3) := by decide +kernel
theorem dX1_put_35 : decode cX1_put 35 = .ok (.iload_n 1, 1) := by decide +kernel
theorem dX1_put_36 : decode cX1_put 36 = .ok (.lload_n 2, 1) := by decide +kernel
theorem dX1_put_37 : decode cX1_put 37 = .ok (.l2i, 1) := by decide +kernel
theorem dX1_put_38 : decode cX1_put 38 = .ok (.i2s, 1) := by decide +kernel
theorem dX1_put_39 : decode cX1_put 39 = .ok (.i2l, 1) := by decide +kernel
theorem dX1_put_40 : decode cX1_put 40 = .ok (.lastore, 1) := by decide +kernel
theorem dX1_put_41 : decode cX1_put 41 = .ok (.goto 10, 3) := by decide +kernel
theorem dX1_put_44 : decode cX1_put 44 = .ok (.aload_n 0, 1) := by decide +kernel
theorem dX1_put_45 : decode cX1_put 45 = .ok (.getfield 18, 3) := by decide +kernel
theorem dX1_put_48 : decode cX1_put 48 = .ok (.iload_n 1, 1) := by decide +kernel
theorem dX1_put_49 : decode cX1_put 49 = .ok (.lload_n 2, 1) := by decide +kernel
theorem dX1_put_50 : decode cX1_put 50 = .ok (.lastore, 1) := by decide +kernel
theorem dX1_put_51 : decode cX1_put 51 = .ok (.return_, 1) := by decide +kernel
theorem dX1_hasRun_0 : decode cX1_hasRun 0 = .ok (.iload_n 1, 1) := by decide +kernel
theorem dX1_hasRun_1 : decode cX1_hasRun 1 = .ok (.ifCond .lt 29, 3) := by decide +kernel
theorem dX1_hasRun_4 : decode cX1_hasRun 4 = .ok (.iload_n 2, 1) := by decide +kernel
theorem dX1_hasRun_5 : decode cX1_hasRun 5 = .ok (.ifCond .lt 25, 3) := by decide +kernel
theorem dX1_hasRun_8 : decode cX1_hasRun 8 = .ok (.iload_n 2, 1) := by decide +kernel
theorem dX1_hasRun_9 : decode cX1_hasRun 9 = .ok (.aload_n 0, 1) := by decide +kernel
theorem dX1_hasRun_10 : decode cX1_hasRun 10 = .ok (.getfield 15, 3) := by decide +kernel
theorem dX1_hasRun_13 : decode cX1_hasRun 13 = .ok (.if_icmp .gt 17, 3) := by decide +kernel
theorem dX1_hasRun_16 : decode cX1_hasRun 16 = .ok (.iload_n 1, 1) := by decide +kernel
theorem dX1_hasRun_17 : decode cX1_hasRun 17 = .ok (.aload_n 0, 1) := by decide +kernel
theorem dX1_hasRun_18 : decode cX1_hasRun 18 = .ok (.getfield 15, 3) := by decide +kernel
theorem dX1_hasRun_21 : decode cX1_hasRun 21 = .ok (.iload_n 2, 1) := by decide +kernel
theorem dX1_hasRun_22 : decode cX1_hasRun 22 = .ok (.isub, 1) := by decide +kernel
theorem dX1_hasRun_23 : decode cX1_hasRun 23 = .ok (.if_icmp .gt 7, 3) := by decide +kernel
theorem dX1_hasRun_26 : decode cX1_hasRun 26 = .ok (.iconst 1, 1) := by decide +kernel
theorem dX1_hasRun_27 : decode cX1_hasRun 27 = .ok (.goto 4, 3) := by decide +kernel
theorem dX1_hasRun_30 : decode cX1_hasRun 30 = .ok (.iconst 0, 1) := by decide +kernel
theorem dX1_hasRun_31 : decode cX1_hasRun 31 = .ok (.ireturn, 1) := by decide +kernel
theorem dX2_init_0 : decode cX2_init 0 = .ok (.aload_n 0, 1) := by decide +kernel
theorem dX2_init_1 : decode cX2_init 1 = .ok (.invokespecial 3, 3) := by decide +kernel
theorem dX2_init_4 : decode cX2_init 4 = .ok (.aload_n 0, 1) := by decide +kernel
theorem dX2_init_5 : decode cX2_init 5 = .ok (.iconst 0, 1) := by decide +kernel
theorem dX2_init_6 : decode cX2_init 6 = .ok (.putfield 9, 3) := by decide +kernel
theorem dX2_init_9 : decode cX2_init 9 = .ok (.aload_n 0, 1) := by decide +kernel
theorem dX2_init_10 : decode cX2_init 10 = .ok (.bipush 120, 2) := by decide +kernel
theorem dX2_init_12 : decode cX2_init 12 = .ok (.newarray .int, 2) := by decide +kernel
theorem dX2_init_14 : decode cX2_init 14 = .ok (.putfield 15, 3) := by decide +kernel
theorem dX2_init_17 : decode cX2_init 17 = .ok (.aload_n 0, 1) := by decide +kernel
theorem dX2_init_18 : decode cX2_init 18 = .ok (.iconst 0, 1) := by decide +kernel
theorem dX2_init_19 : decode cX2_init 19 = .ok (.putfield 19, 3) := by decide +kernel
theorem dX2_init_22 : decode cX2_init 22 = .ok (.aload_n 0, 1) := by decide +kernel
theorem dX2_init_23 : decode cX2_init 23 = .ok (.iconst 0, 1) := by decide +kernel
theorem dX2_init_24 : decode cX2_init 24 = .ok (.putfield 22, 3) := by decide +kernel
theorem dX2_init_27 : decode cX2_init 27 = .ok (.aload_n 0, 1) := by decide +kernel
theorem dX2_init_28 : decode cX2_init 28 = .ok (.iconst 0, 1) := by decide +kernel
theorem dX2_init_29 : decode cX2_init 29 = .ok (.putfield 25, 3) := by decide +kernel
theorem dX2_init_32 : decode cX2_init 32 = .ok (.aload_n 0, 1) := by decide +kernel
theorem dX2_init_33 : decode cX2_init 33 = .ok (.iconst 0, 1) := by decide +kernel
theorem dX2_init_34 : decode cX2_init 34 = .ok (.putfield 28, 3) := by decide +kernel
theorem dX2_init_37 : decode cX2_init 37 = .ok (.aload_n 0, 1) := by decide +kernel
theorem dX2_init_38 : decode cX2_init 38 = .ok (.iconst 0, 1) := by decide +kernel
theorem dX2_init_39 : decode cX2_init 39 = .ok (.putfield 31, 3) := by decide +kernel
theorem dX2_init_42 : decode cX2_init 42 = .ok (.return_, 1) := by decide +kernel
theorem dX2_append_0 : decode cX2_append 0 = .ok (.iload_n 2, 1) := by decide +kernel
theorem dX2_append_1 : decode cX2_append 1 = .ok (.iconst 1, 1) := by decide +kernel
theorem dX2_append_2 : decode cX2_append 2 = .ok (.isub, 1) := by decide +kernel
theorem dX2_append_3 : decode cX2_append 3 = .ok (.istore_n 3, 1) := by decide +kernel
theorem dX2_append_4 : decode cX2_append 4 = .ok (.iload_n 3, 1) := by decide +kernel
theorem dX2_append_5 : decode cX2_append 5 = .ok (.ifCond .lt 47, 3) := by decide +kernel
theorem dX2_append_8 : decode cX2_append 8 = .ok (.aload_n 0, 1) := by decide +kernel
theorem dX2_append_9 : decode cX2_append 9 = .ok (.getfield 9, 3) := by decide +kernel
theorem dX2_append_12 : decode cX2_append 12 = .ok (.bipush 120, 2) := by decide +kernel
theorem dX2_append_14 : decode cX2_append 14 = .ok (.if_icmp .ge 38, 3) := by decide +kernel
theorem dX2_append_17 : decode cX2_append 17 = .ok (.aload_n 0, 1) := by decide +kernel
theorem dX2_append_18 : decode cX2_append 18 = .ok (.getfield 15, 3) := by decide +kernel
theorem dX2_append_21 : decode cX2_append 21 = .ok (.aload_n 0, 1) := by decide +kernel
theorem dX2_append_22 : decode cX2_append 22 = .ok (.getfield 9, 3) := by decide +kernel
theorem dX2_append_25 : decode cX2_append 25 = .ok (.iload_n 1, 1) := by decide +kernel
theorem dX2_append_26 : decode cX2_append 26 = .ok (.bipush 8, 2) := by decide +kernel
theorem dX2_append_28 : decode cX2_append 28 = .ok (.iload_n 3, 1) := by decide +kernel
theorem dX2_append_29 : decode cX2_append 29 = .ok (.imul, 1) := by decide +kernel
theorem dX2_append_30 : decode cX2_append 30 = .ok (.ishr, 1) := by decide +kernel
theorem dX2_append_31 : decode cX2_append 31 = .ok (.sipush 255, 3) := by decide +kernel
theorem dX2_append_34 : decode cX2_append 34 = .ok (.iand, 1) := by decide +kernel
theorem dX2_append_35 : decode cX2_append 35 = .ok (.iastore, 1) := by decide +kernel
theorem dX2_append_36 : decode cX2_append 36 = .ok (.aload_n 0, 1) := by decide +kernel
theorem dX2_append_37 : decode cX2_append 37 = .ok (.dup, 1) := by decide +kernel
theorem dX2_append_38 : decode cX2_append 38 = .ok (.getfield 9, 3) := by decide +kernel
theorem dX2_append_41 : decode cX2_append 41 = .ok (.iconst 1, 1) := by decide +kernel
theorem dX2_append_42 : decode cX2_append 42 = .ok (.iadd, 1) := by decide +kernel
theorem dX2_append_43 : decode cX2_append 43 = .ok (.putfield 9, 3) := by decide +kernel
theorem dX2_append_46 : decode cX2_append 46 = .ok (.iinc 3 (-1), 3) := by decide +kernel
theorem dX2_append_49 : decode cX2_append 49 = .ok (.goto (-45), 3) := by decide +kernel
theorem dX2_append_52 : decode cX2_append 52 = .ok (.return_, 1) := by decide +kernel
theorem dX2_tellItems_0 : decode cX2_tellItems 0 = .ok (.aload_n 0, 1) := by decide +kernel
theorem dX2_tellItems_1 : decode cX2_tellItems 1 = .ok (.iconst 0, 1) := by decide +kernel
theorem dX2_tellItems_2 : decode cX2_tellItems 2 = .ok (.putfield 25, 3) := by decide +kernel
theorem dX2_tellItems_5 : decode cX2_tellItems 5 = .ok (.aload_n 0, 1) := by decide +kernel
theorem dX2_tellItems_6 : decode cX2_tellItems 6 = .ok (.invokevirtual 34, 3) := by decide +kernel
theorem dX2_tellItems_9 : decode cX2_tellItems 9 = .ok (.iconst 1, 1) := by decide +kernel
theorem dX2_tellItems_10 : decode cX2_tellItems 10 = .ok (.istore_n 2, 1) := by decide +kernel
theorem dX2_tellItems_11 : decode cX2_tellItems 11 = .ok (.iload_n 2, 1) := by decide +kernel
theorem dX2_tellItems_12 : decode cX2_tellItems 12 = .ok (.bipush 120, 2) := by decide +kernel
theorem dX2_tellItems_14 : decode cX2_tellItems 14 = .ok (.if_icmp .gt 52, 3) := by decide +kernel
theorem dX2_tellItems_17 : decode cX2_tellItems 17 = .ok (.aload_n 0, 1) := by decide +kernel
theorem dX2_tellItems_18 : decode cX2_tellItems 18 = .ok (.aload_n 1, 1) := by decide +kernel
theorem dX2_tellItems_19 : decode cX2_tellItems 19 = .ok (.invokevirtual 37, 3) := by decide +kernel
theorem dX2_tellItems_22 : decode cX2_tellItems 22 = .ok (.ifCond .ne 10, 3) := by decide +kernel
theorem dX2_tellItems_25 : decode cX2_tellItems 25 = .ok (.iconst (-1), 1) := by decide +kernel
theorem dX2_tellItems_26 : decode cX2_tellItems 26 = .ok (.aload_n 0, 1) := by decide +kernel
theorem dX2_tellItems_27 : decode cX2_tellItems 27 = .ok (.getfield 22, 3) := by decide +kernel
theorem dX2_tellItems_30 : decode cX2_tellItems 30 = .ok (.isub, 1) := by decide +kernel
theorem dX2_tellItems_31 : decode cX2_tellItems 31 = .ok (.ireturn, 1) := by decide +kernel
theorem dX2_tellItems_32 : decode cX2_tellItems 32 = .ok (.aload_n 0, 1) := by decide +kernel
theorem dX2_tellItems_33 : decode cX2_tellItems 33 = .ok (.getfield 19, 3) := by decide +kernel
theorem dX2_tellItems_36 : decode cX2_tellItems 36 = .ok (.ifCond .ne 5, 3) := by decide +kernel
theorem dX2_tellItems_39 : decode cX2_tellItems 39 = .ok (.iload_n 2, 1) := by decide +kernel
theorem dX2_tellItems_40 : decode cX2_tellItems 40 = .ok (.ireturn, 1) := by decide +kernel
theorem dX2_tellItems_41 : decode cX2_tellItems 41 = .ok (.aload_n 0, 1) := by decide +kernel
theorem dX2_tellItems_42 : decode cX2_tellItems 42 = .ok (.getfield 19, 3) := by decide +kernel
theorem dX2_tellItems_45 : decode cX2_tellItems 45 = .ok (.iconst 3, 1) := by decide +kernel
theorem dX2_tellItems_46 : decode cX2_tellItems 46 = .ok (.if_icmp .eq 10, 3) := by decide +kernel
theorem dX2_tellItems_49 : decode cX2_tellItems 49 = .ok (.iconst (-1), 1) := by decide +kernel
theorem dX2_tellItems_50 : decode cX2_tellItems 50 = .ok (.aload_n 0, 1) := by decide +kernel
theorem dX2_tellItems_51 : decode cX2_tellItems 51 = .ok (.getfield 22, 3) := by decide +kernel
theorem dX2_tellItems_54 : decode cX2_tellItems 54 = .ok (.isub, 1) := by decide +kernel
theorem dX2_tellItems_55 : decode cX2_tellItems 55 = .ok (.ireturn, 1) := by decide +kernel
theorem dX2_tellItems_56 : decode cX2_tellItems 56 = .ok (.aload_n 0, 1) := by decide +kernel
theorem dX2_tellItems_57 : decode cX2_tellItems 57 = .ok (.invokevirtual 34, 3) := by decide +kernel
theorem dX2_tellItems_60 : decode cX2_tellItems 60 = .ok (.iinc 2 1, 3) := by decide +kernel
theorem dX2_tellItems_63 : decode cX2_tellItems 63 = .ok (.goto (-52), 3) := by decide +kernel
theorem dX2_tellItems_66 : decode cX2_tellItems 66 = .ok (.iconst (-1), 1) := by decide +kernel
theorem dX2_tellItems_67 : decode cX2_tellItems 67 = .ok (.aload_n 0, 1) := by decide +kernel
theorem dX2_tellItems_68 : decode cX2_tellItems 68 = .ok (.getfield 22, 3) := by decide +kernel
theorem dX2_tellItems_71 : decode cX2_tellItems 71 = .ok (.isub, 1) := by decide +kernel
theorem dX2_tellItems_72 : decode cX2_tellItems 72 = .ok (.ireturn, 1) := by decide +kernel
theorem dX2_takeItem_0 : decode cX2_takeItem 0 = .ok (.aload_n 0, 1) := by decide +kernel
theorem dX2_takeItem_1 : decode cX2_takeItem 1 = .ok (.invokevirtual 41, 3) := by decide +kernel
theorem dX2_takeItem_4 : decode cX2_takeItem 4 = .ok (.istore_n 2, 1) := by decide +kernel
theorem dX2_takeItem_5 : decode cX2_takeItem 5 = .ok (.iload_n 2, 1) := by decide +kernel
theorem dX2_takeItem_6 : decode cX2_takeItem 6 = .ok (.ifCond .lt 10, 3) := by decide +kernel
theorem dX2_takeItem_9 : decode cX2_takeItem 9 = .ok (.aload_n 0, 1) := by decide +kernel
theorem dX2_takeItem_10 : decode cX2_takeItem 10 = .ok (.aload_n 1, 1) := by decide +kernel
theorem dX2_takeItem_11 : decode cX2_takeItem 11 = .ok (.iload_n 2, 1) := by decide +kernel
theorem dX2_takeItem_12 : decode cX2_takeItem 12 = .ok (.invokevirtual 45, 3) := by decide +kernel
theorem dX2_takeItem_15 : decode cX2_takeItem 15 = .ok (.ireturn, 1) := by decide +kernel
theorem dX2_takeItem_16 : decode cX2_takeItem 16 = .ok (.aload_n 0, 1) := by decide +kernel
theorem dX2_takeItem_17 : decode cX2_takeItem 17 = .ok (.ldc 49, 2) := by decide +kernel
theorem dX2_takeItem_19 : decode cX2_takeItem 19 = .ok (.invokevirtual 51, 3) := by decide +kernel
theorem dX2_takeItem_22 : decode cX2_takeItem 22 = .ok (.ifCond .eq 10, 3) := by decide +kernel
theorem dX2_takeItem_25 : decode cX2_takeItem 25 = .ok (.aload_n 0, 1) := by decide +kernel
theorem dX2_takeItem_26 : decode cX2_takeItem 26 = .ok (.aload_n 1, 1) := by decide +kernel
theorem dX2_takeItem_27 : decode cX2_takeItem 27 = .ok (.iconst 1, 1) := by decide +kernel
theorem dX2_takeItem_28 : decode cX2_takeItem 28 = .ok (.invokevirtual 55, 3) := by decide +kernel
theorem dX2_takeItem_31 : decode cX2_takeItem 31 = .ok (.ireturn, 1) := by decide +kernel
theorem dX2_takeItem_32 : decode cX2_takeItem 32 = .ok (.aload_n 0, 1) := by decide +kernel
theorem dX2_takeItem_33 : decode cX2_takeItem 33 = .ok (.ldc 59, 2) := by decide +kernel
theorem dX2_takeItem_35 : decode cX2_takeItem 35 = .ok (.invokevirtual 51, 3) := by decide +kernel
theorem dX2_takeItem_38 : decode cX2_takeItem 38 = .ok (.ifCond .eq 10, 3) := by decide +kernel
theorem dX2_takeItem_41 : decode cX2_takeItem 41 = .ok (.aload_n 0, 1) := by decide +kernel
theorem dX2_takeItem_42 : decode cX2_takeItem 42 = .ok (.aload_n 1, 1) := by decide +kernel
theorem dX2_takeItem_43 : decode cX2_takeItem 43 = .ok (.iconst 0, 1) := by decide +kernel
theorem dX2_takeItem_44 : decode cX2_takeItem 44 = .ok (.invokevirtual 55, 3) := by decide +kernel
theorem dX2_takeItem_47 : decode cX2_takeItem 47 = .ok (.ireturn, 1) := by decide +kernel
theorem dX2_takeItem_48 : decode cX2_takeItem 48 = .ok (.aload_n 0, 1) := by decide +kernel
theorem dX2_takeItem_49 : decode cX2_takeItem 49 = .ok (.ldc 61, 2) := by decide +kernel
theorem dX2_takeItem_51 : decode cX2_takeItem 51 = .ok (.invokevirtual 51, 3) := by decide +kernel
theorem dX2_takeItem_54 : decode cX2_takeItem 54 = .ok (.ifCond .eq 23, 3) := by decide +kernel
theorem dX2_takeItem_57 : decode cX2_takeItem 57 = .ok (.aload_n 0, 1) := by decide +kernel
theorem dX2_takeItem_58 : decode cX2_takeItem 58 = .ok (.iconst 0, 1) := by decide +kernel
theorem dX2_takeItem_59 : decode cX2_takeItem 59 = .ok (.bipush 35, 2) := by decide +kernel
theorem dX2_takeItem_61 : decode cX2_takeItem 61 = .ok (.invokevirtual 63, 3) := by decide +kernel
theorem dX2_takeItem_64 : decode cX2_takeItem 64 = .ok (.ifCond .eq 13, 3) := by decide +kernel
theorem dX2_takeItem_67 : decode cX2_takeItem 67 = .ok (.aload_n 1, 1) := by decide +kernel
theorem dX2_takeItem_68 : decode cX2_takeItem 68 = .ok (.aload_n 0, 1) := by decide +kernel
theorem dX2_takeItem_69 : decode cX2_takeItem 69 = .ok (.getfield 31, 3) := by decide +kernel
theorem dX2_takeItem_72 : decode cX2_takeItem 72 = .ok (.putfield 67, 3) := by decide +kernel
theorem dX2_takeItem_75 : decode cX2_takeItem 75 = .ok (.iconst 1, 1) := by decide +kernel
theorem dX2_takeItem_76 : decode cX2_takeItem 76 = .ok (.ireturn, 1) := by decide +kernel
theorem dX2_takeItem_77 : decode cX2_takeItem 77 = .ok (.iconst 0, 1) := by decide +kernel
theorem dX2_takeItem_78 : decode cX2_takeItem 78 = .ok (.ireturn, 1) := by decide +kernel
theorem dX2_takeWalker_0 : decode cX2_takeWalker 0 = .ok (.aload_n 1, 1) := by decide +kernel
theorem dX2_takeWalker_1 : decode cX2_takeWalker 1 = .ok (.invokevirtual 72, 3) := by decide +kernel
theorem dX2_takeWalker_4 : decode cX2_takeWalker 4 = .ok (.ifCond .ne 5, 3) := by decide +kernel
theorem dX2_takeWalker_7 : decode cX2_takeWalker 7 = .ok (.iconst 0, 1) := by decide +kernel
theorem dX2_takeWalker_8 : decode cX2_takeWalker 8 = .ok (.ireturn, 1) := by decide +kernel
theorem dX2_takeWalker_9 : decode cX2_takeWalker 9 = .ok (.aload_n 0, 1) := by decide +kernel
theorem dX2_takeWalker_10 : decode cX2_takeWalker 10 = .ok (.invokevirtual 34, 3) := by decide +kernel
theorem dX2_takeWalker_13 : decode cX2_takeWalker 13 = .ok (.aload_n 0, 1) := by decide +kernel
theorem dX2_takeWalker_14 : decode cX2_takeWalker 14 = .ok (.ldc 76, 2) := by decide +kernel
theorem dX2_takeWalker_16 : decode cX2_takeWalker 16 = .ok (.invokevirtual 51, 3) := by decide +kernel
theorem dX2_takeWalker_19 : decode cX2_takeWalker 19 = .ok (.ifCond .eq 13, 3) := by decide +kernel
theorem dX2_takeWalker_22 : decode cX2_takeWalker 22 = .ok (.aload_n 0, 1) := by decide +kernel
theorem dX2_takeWalker_23 : decode cX2_takeWalker 23 = .ok (.iconst 0, 1) := by decide +kernel
theorem dX2_takeWalker_24 : decode cX2_takeWalker 24 = .ok (.bipush 35, 2) := by decide +kernel
theorem dX2_takeWalker_26 : decode cX2_takeWalker 26 = .ok (.invokevirtual 63, 3) := by decide +kernel
theorem dX2_takeWalker_29 : decode cX2_takeWalker 29 = .ok (.ifCond .ne 5, 3) := by decide +kernel
theorem dX2_takeWalker_32 : decode cX2_takeWalker 32 = .ok (.iconst 0, 1) := by decide +kernel
theorem dX2_takeWalker_33 : decode cX2_takeWalker 33 = .ok (.ireturn, 1) := by decide +kernel
theorem dX2_takeWalker_34 : decode cX2_takeWalker 34 = .ok (.aload_n 1, 1) := by decide +kernel
theorem dX2_takeWalker_35 : decode cX2_takeWalker 35 = .ok (.iload_n 2, 1) := by decide +kernel
theorem dX2_takeWalker_36 : decode cX2_takeWalker 36 = .ok (.aload_n 0, 1) := by decide +kernel
theorem dX2_takeWalker_37 : decode cX2_takeWalker 37 = .ok (.getfield 31, 3) := by decide +kernel
theorem dX2_takeWalker_40 : decode cX2_takeWalker 40 = .ok (.invokevirtual 78, 3) := by decide +kernel
theorem dX2_takeWalker_43 : decode cX2_takeWalker 43 = .ok (.istore_n 3, 1) := by decide +kernel
theorem dX2_takeWalker_44 : decode cX2_takeWalker 44 = .ok (.aload_n 1, 1) := by decide +kernel
theorem dX2_takeWalker_45 : decode cX2_takeWalker 45 = .ok (.iload_n 3, 1) := by decide +kernel
theorem dX2_takeWalker_46 : decode cX2_takeWalker 46 = .ok (.invokevirtual 82, 3) := by decide +kernel
theorem dX2_takeWalker_49 : decode cX2_takeWalker 49 = .ok (.ifCond .ne 5, 3) := by decide +kernel
theorem dX2_takeWalker_52 : decode cX2_takeWalker 52 = .ok (.iconst 0, 1) := by decide +kernel
theorem dX2_takeWalker_53 : decode cX2_takeWalker 53 = .ok (.ireturn, 1) := by decide +kernel
theorem dX2_takeWalker_54 : decode cX2_takeWalker 54 = .ok (.aload_n 0, 1) := by decide +kernel
theorem dX2_takeWalker_55 : decode cX2_takeWalker 55 = .ok (.ldc 86, 2) := by decide +kernel
theorem dX2_takeWalker_57 : decode cX2_takeWalker 57 = .ok (.invokevirtual 51, 3) := by decide +kernel
theorem dX2_takeWalker_60 : decode cX2_takeWalker 60 = .ok (.ifCond .eq 24, 3) := by decide +kernel
theorem dX2_takeWalker_63 : decode cX2_takeWalker 63 = .ok (.aload_n 0, 1) := by decide +kernel
theorem dX2_takeWalker_64 : decode cX2_takeWalker 64 = .ok (.iconst 0, 1) := by decide +kernel
theorem dX2_takeWalker_65 : decode cX2_takeWalker 65 = .ok (.iconst 3, 1) := by decide +kernel
theorem dX2_takeWalker_66 : decode cX2_takeWalker 66 = .ok (.invokevirtual 63, 3) := by decide +kernel
theorem dX2_takeWalker_69 : decode cX2_takeWalker 69 = .ok (.ifCond .ne 5, 3) := by decide +kernel
theorem dX2_takeWalker_72 : decode cX2_takeWalker 72 = .ok (.iconst 0, 1) := by decide +kernel
theorem dX2_takeWalker_73 : decode cX2_takeWalker 73 = .ok (.ireturn, 1) := by decide +kernel
theorem dX2_takeWalker_74 : decode cX2_takeWalker 74 = .ok (.aload_n 1, 1) := by decide +kernel
theorem dX2_takeWalker_75 : decode cX2_takeWalker 75 = .ok (.getfield 88, 3) := by decide +kernel
theorem dX2_takeWalker_78 : decode cX2_takeWalker 78 = .ok (.iload_n 3, 1) := by decide +kernel
theorem dX2_takeWalker_79 : decode cX2_takeWalker 79 = .ok (.aload_n 0, 1) := by decide +kernel
theorem dX2_takeWalker_80 : decode cX2_takeWalker 80 = .ok (.getfield 31, 3) := by decide +kernel
theorem dX2_takeWalker_83 : decode cX2_takeWalker 83 = .ok (.iastore, 1) := by decide +kernel
theorem dX2_takeWalker_84 : decode cX2_takeWalker 84 = .ok (.aload_n 0, 1) := by decide +kernel
theorem dX2_takeWalker_85 : decode cX2_takeWalker 85 = .ok (.ldc 91, 2) := by decide +kernel
theorem dX2_takeWalker_87 : decode cX2_takeWalker 87 = .ok (.invokevirtual 51, 3) := by decide +kernel
theorem dX2_takeWalker_90 : decode cX2_takeWalker 90 = .ok (.ifCond .eq 25, 3) := by decide +kernel
theorem dX2_takeWalker_93 : decode cX2_takeWalker 93 = .ok (.aload_n 0, 1) := by decide +kernel
theorem dX2_takeWalker_94 : decode cX2_takeWalker 94 = .ok (.iconst 0, 1) := by decide +kernel
theorem dX2_takeWalker_95 : decode cX2_takeWalker 95 = .ok (.bipush 15, 2) := by decide +kernel
theorem dX2_takeWalker_97 : decode cX2_takeWalker 97 = .ok (.invokevirtual 63, 3) := by decide +kernel
theorem dX2_takeWalker_100 : decode cX2_takeWalker 100 = .ok (.ifCond .ne 5, 3) := by decide +kernel
theorem dX2_takeWalker_103 : decode cX2_takeWalker 103 = .ok (.iconst 0, 1) := by decide +kernel
theorem dX2_takeWalker_104 : decode cX2_takeWalker 104 = .ok (.ireturn, 1) := by decide +kernel
theorem dX2_takeWalker_105 : decode cX2_takeWalker 105 = .ok (.aload_n 1, 1) := by decide +kernel
theorem dX2_takeWalker_106 : decode cX2_takeWalker 106 = .ok (.getfield 93, 3) := by decide +kernel
theorem dX2_takeWalker_109 : decode cX2_takeWalker 109 = .ok (.iload_n 3, 1) := by decide +kernel
theorem dX2_takeWalker_110 : decode cX2_takeWalker 110 = .ok (.aload_n 0, 1) := by decide +kernel
theorem dX2_takeWalker_111 : decode cX2_takeWalker 111 = .ok (.getfield 31, 3) := by decide +kernel
theorem dX2_takeWalker_114 : decode cX2_takeWalker 114 = .ok (.iastore, 1) := by decide +kernel
theorem dX2_takeWalker_115 : decode cX2_takeWalker 115 = .ok (.iconst 1, 1) := by decide +kernel
theorem dX2_takeWalker_116 : decode cX2_takeWalker 116 = .ok (.ireturn, 1) := by decide +kernel
theorem dX2_takeDayHours_0 : decode cX2_takeDayHours 0 = .ok (.aload_n 0, 1) := by decide +kernel
theorem dX2_takeDayHours_1 : decode cX2_takeDayHours 1 = .ok (.iconst 0, 1) := by decide +kernel
theorem dX2_takeDayHours_2 : decode cX2_takeDayHours 2 = .ok (.bipush 23, 2) := by decide +kernel
theorem dX2_takeDayHours_4 : decode cX2_takeDayHours 4 = .ok (.invokevirtual 63, 3) := by decide +kernel
theorem dX2_takeDayHours_7 : decode cX2_takeDayHours 7 = .ok (.ifCond .ne 5, 3) := by decide +kernel
theorem dX2_takeDayHours_10 : decode cX2_takeDayHours 10 = .ok (.iconst 0, 1) := by decide +kernel
theorem dX2_takeDayHours_11 : decode cX2_takeDayHours 11 = .ok (.ireturn, 1) := by decide +kernel
theorem dX2_takeDayHours_12 : decode cX2_takeDayHours 12 = .ok (.aload_n 0, 1) := by decide +kernel
theorem dX2_takeDayHours_13 : decode cX2_takeDayHours 13 = .ok (.getfield 31, 3) := by decide +kernel
theorem dX2_takeDayHours_16 : decode cX2_takeDayHours 16 = .ok (.istore_n 3, 1) := by decide +kernel
theorem dX2_takeDayHours_17 : decode cX2_takeDayHours 17 = .ok (.aload_n 0, 1) := by decide +kernel
theorem dX2_takeDayHours_18 : decode cX2_takeDayHours 18 = .ok (.ldc 95, 2) := by decide +kernel
theorem dX2_takeDayHours_20 : decode cX2_takeDayHours 20 = .ok (.invokevirtual 51, 3) := by decide +kernel
theorem dX2_takeDayHours_23 : decode cX2_takeDayHours 23 = .ok (.ifCond .eq 15, 3) := by decide +kernel
theorem dX2_takeDayHours_26 : decode cX2_takeDayHours 26 = .ok (.aload_n 0, 1) := by decide +kernel
theorem dX2_takeDayHours_27 : decode cX2_takeDayHours 27 = .ok (.iload_n 3, 1) := by decide +kernel
theorem dX2_takeDayHours_28 : decode cX2_takeDayHours 28 = .ok (.bipush 23, 2) := by decide +kernel
theorem dX2_takeDayHours_30 : decode cX2_takeDayHours 30 = .ok (.invokevirtual 63, 3) := by decide +kernel
theorem dX2_takeDayHours_33 : decode cX2_takeDayHours 33 = .ok (.ifCond .ne 5, 3) := by decide +kernel
theorem dX2_takeDayHours_36 : decode cX2_takeDayHours 36 = .ok (.iconst 0, 1) := by decide +kernel
theorem dX2_takeDayHours_37 : decode cX2_takeDayHours 37 = .ok (.ireturn, 1) := by decide +kernel
theorem dX2_takeDayHours_38 : decode cX2_takeDayHours 38 = .ok (.iload_n 3, 1) := by decide +kernel
theorem dX2_takeDayHours_39 : decode cX2_takeDayHours 39 = .ok (.istore 4, 2) := by decide +kernel
theorem dX2_takeDayHours_41 : decode cX2_takeDayHours 41 = .ok (.iload 4, 2) := by decide +kernel
theorem dX2_takeDayHours_43 : decode cX2_takeDayHours 43 = .ok (.aload_n 0, 1) := by decide +kernel
theorem dX2_takeDayHours_44 : decode cX2_takeDayHours 44 = .ok (.getfield 31, 3) := by decide +kernel
theorem dX2_takeDayHours_47 : decode cX2_takeDayHours 47 = .ok (.if_icmp .gt 44, 3) := by decide +kernel
theorem dX2_takeDayHours_50 : decode cX2_takeDayHours 50 = .ok (.iload_n 2, 1) := by decide +kernel
theorem dX2_takeDayHours_51 : decode cX2_takeDayHours 51 = .ok (.ifCond .eq 19, 3) := by decide +kernel
theorem dX2_takeDayHours_54 : decode cX2_takeDayHours 54 = .ok (.aload_n 1, 1) := by decide +kernel
theorem dX2_takeDayHours_55 : decode cX2_takeDayHours 55 = .ok (.dup, 1) := by decide +kernel
theorem dX2_takeDayHours_56 : decode cX2_takeDayHours 56 = .ok (.getfield 97, 3) := by decide +kernel
theorem dX2_takeDayHours_59 : decode cX2_takeDayHours 59 = .ok (.iconst 1, 1) := by decide +kernel
theorem dX2_takeDayHours_60 : decode cX2_takeDayHours 60 = .ok (.iload 4, 2) := by decide +kernel
theorem dX2_takeDayHours_62 : decode cX2_takeDayHours 62 = .ok (.ishl, 1) := by decide +kernel
theorem dX2_takeDayHours_63 : decode cX2_takeDayHours 63 = .ok (.ior, 1) := by decide +kernel
theorem dX2_takeDayHours_64 : decode cX2_takeDayHours 64 = .ok (.putfield 97, 3) := by decide +kernel
theorem dX2_takeDayHours_67 : decode cX2_takeDayHours 67 = .ok (.goto 18, 3) := by decide +kernel
theorem dX2_takeDayHours_70 : decode cX2_takeDayHours 70 = .ok (.aload_n 1, 1) := by decide +kernel
theorem dX2_takeDayHours_71 : decode cX2_takeDayHours 71 = .ok (.dup, 1) := by decide +kernel
theorem dX2_takeDayHours_72 : decode cX2_takeDayHours 72 = .ok (.getfield 97, 3) := by decide +kernel
theorem dX2_takeDayHours_75 : decode cX2_takeDayHours 75 = .ok (.iconst 1, 1) := by decide +kernel
theorem dX2_takeDayHours_76 : decode cX2_takeDayHours 76 = .ok (.iload 4, 2) := by decide +kernel
theorem dX2_takeDayHours_78 : decode cX2_takeDayHours 78 = .ok (.ishl, 1) := by decide +kernel
theorem dX2_takeDayHours_79 : decode cX2_takeDayHours 79 = .ok (.iconst (-1), 1) := by decide +kernel
theorem dX2_takeDayHours_80 : decode cX2_takeDayHours 80 = .ok (.ixor, 1) := by decide +kernel
theorem dX2_takeDayHours_81 : decode cX2_takeDayHours 81 = .ok (.iand, 1) := by decide +kernel
theorem dX2_takeDayHours_82 : decode cX2_takeDayHours 82 = .ok (.putfield 97, 3) := by decide +kernel
theorem dX2_takeDayHours_85 : decode cX2_takeDayHours 85 = .ok (.iinc 4 1, 3) := by decide +kernel
theorem dX2_takeDayHours_88 : decode cX2_takeDayHours 88 = .ok (.goto (-47), 3) := by decide +kernel
theorem dX2_takeDayHours_91 : decode cX2_takeDayHours 91 = .ok (.iconst 1, 1) := by decide +kernel
theorem dX2_takeDayHours_92 : decode cX2_takeDayHours 92 = .ok (.ireturn, 1) := by decide +kernel
theorem dX2_takeWord_0 : decode cX2_takeWord 0 = .ok (.aload_n 0, 1) := by decide +kernel
theorem dX2_takeWord_1 : decode cX2_takeWord 1 = .ok (.aload_n 1, 1) := by decide +kernel
theorem dX2_takeWord_2 : decode cX2_takeWord 2 = .ok (.invokevirtual 100, 3) := by decide +kernel
theorem dX2_takeWord_5 : decode cX2_takeWord 5 = .ok (.ifCond .ne 5, 3) := by decide +kernel
theorem dX2_takeWord_8 : decode cX2_takeWord 8 = .ok (.iconst 0, 1) := by decide +kernel
theorem dX2_takeWord_9 : decode cX2_takeWord 9 = .ok (.ireturn, 1) := by decide +kernel
theorem dX2_takeWord_10 : decode cX2_takeWord 10 = .ok (.aload_n 0, 1) := by decide +kernel
theorem dX2_takeWord_11 : decode cX2_takeWord 11 = .ok (.invokevirtual 34, 3) := by decide +kernel
theorem dX2_takeWord_14 : decode cX2_takeWord 14 = .ok (.iconst 1, 1) := by decide +kernel
theorem dX2_takeWord_15 : decode cX2_takeWord 15 = .ok (.ireturn, 1) := by decide +kernel
theorem dX2_takeNumber_0 : decode cX2_takeNumber 0 = .ok (.aload_n 0, 1) := by decide +kernel
theorem dX2_takeNumber_1 : decode cX2_takeNumber 1 = .ok (.getfield 19, 3) := by decide +kernel
theorem dX2_takeNumber_4 : decode cX2_takeNumber 4 = .ok (.iconst 2, 1) := by decide +kernel
theorem dX2_takeNumber_5 : decode cX2_takeNumber 5 = .ok (.if_icmp .ne 19, 3) := by decide +kernel
theorem dX2_takeNumber_8 : decode cX2_takeNumber 8 = .ok (.aload_n 0, 1) := by decide +kernel
theorem dX2_takeNumber_9 : decode cX2_takeNumber 9 = .ok (.getfield 28, 3) := by decide +kernel
theorem dX2_takeNumber_12 : decode cX2_takeNumber 12 = .ok (.iload_n 1, 1) := by decide +kernel
theorem dX2_takeNumber_13 : decode cX2_takeNumber 13 = .ok (.if_icmp .lt 11, 3) := by decide +kernel
theorem dX2_takeNumber_16 : decode cX2_takeNumber 16 = .ok (.aload_n 0, 1) := by decide +kernel
theorem dX2_takeNumber_17 : decode cX2_takeNumber 17 = .ok (.getfield 28, 3) := by decide +kernel
theorem dX2_takeNumber_20 : decode cX2_takeNumber 20 = .ok (.iload_n 2, 1) := by decide +kernel
theorem dX2_takeNumber_21 : decode cX2_takeNumber 21 = .ok (.if_icmp .le 5, 3) := by decide +kernel
theorem dX2_takeNumber_24 : decode cX2_takeNumber 24 = .ok (.iconst 0, 1) := by decide +kernel
theorem dX2_takeNumber_25 : decode cX2_takeNumber 25 = .ok (.ireturn, 1) := by decide +kernel
theorem dX2_takeNumber_26 : decode cX2_takeNumber 26 = .ok (.aload_n 0, 1) := by decide +kernel
theorem dX2_takeNumber_27 : decode cX2_takeNumber 27 = .ok (.aload_n 0, 1) := by decide +kernel
theorem dX2_takeNumber_28 : decode cX2_takeNumber 28 = .ok (.getfield 28, 3) := by decide +kernel
theorem dX2_takeNumber_31 : decode cX2_takeNumber 31 = .ok (.putfield 31, 3) := by decide +kernel
theorem dX2_takeNumber_34 : decode cX2_takeNumber 34 = .ok (.aload_n 0, 1) := by decide +kernel
theorem dX2_takeNumber_35 : decode cX2_takeNumber 35 = .ok (.invokevirtual 34, 3) := by decide +kernel
theorem dX2_takeNumber_38 : decode cX2_takeNumber 38 = .ok (.iconst 1, 1) := by decide +kernel
theorem dX2_takeNumber_39 : decode cX2_takeNumber 39 = .ok (.ireturn, 1) := by decide +kernel
theorem dX2_kindNamed_0 : decode cX2_kindNamed 0 = .ok (.iconst 0, 1) := by decide +kernel
theorem dX2_kindNamed_1 : decode cX2_kindNamed 1 = .ok (.istore_n 1, 1) := by decide +kernel
theorem dX2_kindNamed_2 : decode cX2_kindNamed 2 = .ok (.iload_n 1, 1) := by decide +kernel
theorem dX2_kindNamed_3 : decode cX2_kindNamed 3 = .ok (.bipush 6, 2) := by decide +kernel
theorem dX2_kindNamed_5 : decode cX2_kindNamed 5 = .ok (.if_icmp .ge 22, 3) := by decide +kernel
theorem dX2_kindNamed_8 : decode cX2_kindNamed 8 = .ok (.aload_n 0, 1) := by decide +kernel
theorem dX2_kindNamed_9 : decode cX2_kindNamed 9 = .ok (.iload_n 1, 1) := by decide +kernel
theorem dX2_kindNamed_10 : decode cX2_kindNamed 10 = .ok (.invokestatic 103, 3) := by decide +kernel
theorem dX2_kindNamed_13 : decode cX2_kindNamed 13 = .ok (.invokevirtual 100, 3) := by decide +kernel
theorem dX2_kindNamed_16 : decode cX2_kindNamed 16 = .ok (.ifCond .eq 5, 3) := by decide +kernel
theorem dX2_kindNamed_19 : decode cX2_kindNamed 19 = .ok (.iload_n 1, 1) := by decide +kernel
theorem dX2_kindNamed_20 : decode cX2_kindNamed 20 = .ok (.ireturn, 1) := by decide +kernel
theorem dX2_kindNamed_21 : decode cX2_kindNamed 21 = .ok (.iinc 1 1, 3) := by decide +kernel
theorem dX2_kindNamed_24 : decode cX2_kindNamed 24 = .ok (.goto (-22), 3) := by decide +kernel
theorem dX2_kindNamed_27 : decode cX2_kindNamed 27 = .ok (.iconst (-1), 1) := by decide +kernel
theorem dX2_kindNamed_28 : decode cX2_kindNamed 28 = .ok (.ireturn, 1) := by decide +kernel
theorem dX2_nameOf_0 : decode cX2_nameOf 0 = .ok (.iload_n 0, 1) := by decide +kernel
theorem dX2_nameOf_1 : decode cX2_nameOf 1 = .ok (.tableswitch 50 0 4 #[35, 38, 41, 44, 47], 35) := by decide +kernel
theorem dX2_nameOf_36 : decode cX2_nameOf 36 = .ok (.ldc 107, 2) := by decide +kernel
theorem dX2_nameOf_38 : decode cX2_nameOf 38 = .ok (.areturn, 1) := by decide +kernel
theorem dX2_nameOf_39 : decode cX2_nameOf 39 = .ok (.ldc 109, 2) := by decide +kernel
theorem dX2_nameOf_41 : decode cX2_nameOf 41 = .ok (.areturn, 1) := by decide +kernel
theorem dX2_nameOf_42 : decode cX2_nameOf 42 = .ok (.ldc 111, 2) := by decide +kernel
theorem dX2_nameOf_44 : decode cX2_nameOf 44 = .ok (.areturn, 1) := by decide +kernel
theorem dX2_nameOf_45 : decode cX2_nameOf 45 = .ok (.ldc 113, 2) := by decide +kernel
theorem dX2_nameOf_47 : decode cX2_nameOf 47 = .ok (.areturn, 1) := by decide +kernel
theorem dX2_nameOf_48 : decode cX2_nameOf 48 = .ok (.ldc 115, 2) := by decide +kernel
theorem dX2_nameOf_50 : decode cX2_nameOf 50 = .ok (.areturn, 1) := by decide +kernel
theorem dX2_nameOf_51 : decode cX2_nameOf 51 = .ok (.ldc 117, 2) := by decide +kernel
theorem dX2_nameOf_53 : decode cX2_nameOf 53 = .ok (.areturn, 1) := by decide +kernel
theorem dX2_isWord_0 : decode cX2_isWord 0 = .ok (.aload_n 0, 1) := by decide +kernel
theorem dX2_isWord_1 : decode cX2_isWord 1 = .ok (.getfield 19, 3) := by decide +kernel
theorem dX2_isWord_4 : decode cX2_isWord 4 = .ok (.iconst 1, 1) := by decide +kernel
theorem dX2_isWord_5 : decode cX2_isWord 5 = .ok (.if_icmp .ne 19, 3) := by decide +kernel
theorem dX2_isWord_8 : decode cX2_isWord 8 = .ok (.aload_n 0, 1) := by decide +kernel
theorem dX2_isWord_9 : decode cX2_isWord 9 = .ok (.getfield 25, 3) := by decide +kernel
theorem dX2_isWord_12 : decode cX2_isWord 12 = .ok (.aload_n 0, 1) := by decide +kernel
theorem dX2_isWord_13 : decode cX2_isWord 13 = .ok (.getfield 22, 3) := by decide +kernel
theorem dX2_isWord_16 : decode cX2_isWord 16 = .ok (.isub, 1) := by decide +kernel
theorem dX2_isWord_17 : decode cX2_isWord 17 = .ok (.aload_n 1, 1) := by decide +kernel
theorem dX2_isWord_18 : decode cX2_isWord 18 = .ok (.invokevirtual 119, 3) := by decide +kernel
theorem dX2_isWord_21 : decode cX2_isWord 21 = .ok (.if_icmp .eq 5, 3) := by decide +kernel
theorem dX2_isWord_24 : decode cX2_isWord 24 = .ok (.iconst 0, 1) := by decide +kernel
theorem dX2_isWord_25 : decode cX2_isWord 25 = .ok (.ireturn, 1) := by decide +kernel
theorem dX2_isWord_26 : decode cX2_isWord 26 = .ok (.iconst 0, 1) := by decide +kernel
theorem dX2_isWord_27 : decode cX2_isWord 27 = .ok (.istore_n 2, 1) := by decide +kernel
theorem dX2_isWord_28 : decode cX2_isWord 28 = .ok (.iload_n 2, 1) := by decide +kernel
theorem dX2_isWord_29 : decode cX2_isWord 29 = .ok (.aload_n 1, 1) := by decide +kernel
theorem dX2_isWord_30 : decode cX2_isWord 30 = .ok (.invokevirtual 119, 3) := by decide +kernel
theorem dX2_isWord_33 : decode cX2_isWord 33 = .ok (.if_icmp .ge 30, 3) := by decide +kernel
theorem dX2_isWord_36 : decode cX2_isWord 36 = .ok (.aload_n 0, 1) := by decide +kernel
theorem dX2_isWord_37 : decode cX2_isWord 37 = .ok (.getfield 15, 3) := by decide +kernel
theorem dX2_isWord_40 : decode cX2_isWord 40 = .ok (.aload_n 0, 1) := by decide +kernel
theorem dX2_isWord_41 : decode cX2_isWord 41 = .ok (.getfield 22, 3) := by decide +kernel
theorem dX2_isWord_44 : decode cX2_isWord 44 = .ok (.iload_n 2, 1) := by decide +kernel
theorem dX2_isWord_45 : decode cX2_isWord 45 = .ok (.iadd, 1) := by decide +kernel
theorem dX2_isWord_46 : decode cX2_isWord 46 = .ok (.iaload, 1) := by decide +kernel
theorem dX2_isWord_47 : decode cX2_isWord 47 = .ok (.aload_n 1, 1) := by decide +kernel
theorem dX2_isWord_48 : decode cX2_isWord 48 = .ok (.iload_n 2, 1) := by decide +kernel
theorem dX2_isWord_49 : decode cX2_isWord 49 = .ok (.invokevirtual 123, 3) := by decide +kernel
theorem dX2_isWord_52 : decode cX2_isWord 52 = .ok (.if_icmp .eq 5, 3) := by decide +kernel
theorem dX2_isWord_55 : decode cX2_isWord 55 = .ok (.iconst 0, 1) := by decide +kernel
theorem dX2_isWord_56 : decode cX2_isWord 56 = .ok (.ireturn, 1) := by decide +kernel
theorem dX2_isWord_57 : decode cX2_isWord 57 = .ok (.iinc 2 1, 3) := by decide +kernel
theorem dX2_isWord_60 : decode cX2_isWord 60 = .ok (.goto (-32), 3) := by decide +kernel
theorem dX2_isWord_63 : decode cX2_isWord 63 = .ok (.iconst 1, 1) := by decide +kernel
theorem dX2_isWord_64 : decode cX2_isWord 64 = .ok (.ireturn, 1) := by decide +kernel
theorem dX2_look_0 : decode cX2_look 0 = .ok (.aload_n 0, 1) := by decide +kernel
theorem dX2_look_1 : decode cX2_look 1 = .ok (.aload_n 0, 1) := by decide +kernel
theorem dX2_look_2 : decode cX2_look 2 = .ok (.getfield 25, 3) := by decide +kernel
theorem dX2_look_5 : decode cX2_look 5 = .ok (.putfield 22, 3) := by decide +kernel
theorem dX2_look_8 : decode cX2_look 8 = .ok (.aload_n 0, 1) := by decide +kernel
theorem dX2_look_9 : decode cX2_look 9 = .ok (.getfield 22, 3) := by decide +kernel
theorem dX2_look_12 : decode cX2_look 12 = .ok (.aload_n 0, 1) := by decide +kernel
theorem dX2_look_13 : decode cX2_look 13 = .ok (.getfield 9, 3) := by decide +kernel
theorem dX2_look_16 : decode cX2_look 16 = .ok (.if_icmp .ge 30, 3) := by decide +kernel
theorem dX2_look_19 : decode cX2_look 19 = .ok (.aload_n 0, 1) := by decide +kernel
theorem dX2_look_20 : decode cX2_look 20 = .ok (.getfield 15, 3) := by decide +kernel
theorem dX2_look_23 : decode cX2_look 23 = .ok (.aload_n 0, 1) := by decide +kernel
theorem dX2_look_24 : decode cX2_look 24 = .ok (.getfield 22, 3) := by decide +kernel
theorem dX2_look_27 : decode cX2_look 27 = .ok (.iaload, 1) := by decide +kernel
theorem dX2_look_28 : decode cX2_look 28 = .ok (.bipush 32, 2) := by decide +kernel
theorem dX2_look_30 : decode cX2_look 30 = .ok (.if_icmp .ne 16, 3) := by decide +kernel
theorem dX2_look_33 : decode cX2_look 33 = .ok (.aload_n 0, 1) := by decide +kernel
theorem dX2_look_34 : decode cX2_look 34 = .ok (.dup, 1) := by decide +kernel
theorem dX2_look_35 : decode cX2_look 35 = .ok (.getfield 22, 3) := by decide +kernel
theorem dX2_look_38 : decode cX2_look 38 = .ok (.iconst 1, 1) := by decide +kernel
theorem dX2_look_39 : decode cX2_look 39 = .ok (.iadd, 1) := by decide +kernel
theorem dX2_look_40 : decode cX2_look 40 = .ok (.putfield 22, 3) := by decide +kernel
theorem dX2_look_43 : decode cX2_look 43 = .ok (.goto (-35), 3) := by decide +kernel
theorem dX2_look_46 : decode cX2_look 46 = .ok (.aload_n 0, 1) := by decide +kernel
theorem dX2_look_47 : decode cX2_look 47 = .ok (.getfield 22, 3) := by decide +kernel
theorem dX2_look_50 : decode cX2_look 50 = .ok (.aload_n 0, 1) := by decide +kernel
theorem dX2_look_51 : decode cX2_look 51 = .ok (.getfield 9, 3) := by decide +kernel
theorem dX2_look_54 : decode cX2_look 54 = .ok (.if_icmp .lt 17, 3) := by decide +kernel
theorem dX2_look_57 : decode cX2_look 57 = .ok (.aload_n 0, 1) := by decide +kernel
theorem dX2_look_58 : decode cX2_look 58 = .ok (.iconst 0, 1) := by decide +kernel
theorem dX2_look_59 : decode cX2_look 59 = .ok (.putfield 19, 3) := by decide +kernel
theorem dX2_look_62 : decode cX2_look 62 = .ok (.aload_n 0, 1) := by decide +kernel
theorem dX2_look_63 : decode cX2_look 63 = .ok (.aload_n 0, 1) := by decide +kernel
theorem dX2_look_64 : decode cX2_look 64 = .ok (.getfield 22, 3) := by decide +kernel
theorem dX2_look_67 : decode cX2_look 67 = .ok (.putfield 25, 3) := by decide +kernel
theorem dX2_look_70 : decode cX2_look 70 = .ok (.return_, 1) := by decide +kernel
theorem dX2_look_71 : decode cX2_look 71 = .ok (.aload_n 0, 1) := by decide +kernel
theorem dX2_look_72 : decode cX2_look 72 = .ok (.aload_n 0, 1) := by decide +kernel
theorem dX2_look_73 : decode cX2_look 73 = .ok (.getfield 15, 3) := by decide +kernel
theorem dX2_look_76 : decode cX2_look 76 = .ok (.aload_n 0, 1) := by decide +kernel
theorem dX2_look_77 : decode cX2_look 77 = .ok (.getfield 22, 3) := by decide +kernel
theorem dX2_look_80 : decode cX2_look 80 = .ok (.iaload, 1) := by decide +kernel
theorem dX2_look_81 : decode cX2_look 81 = .ok (.invokestatic 127, 3) := by decide +kernel
theorem dX2_look_84 : decode cX2_look 84 = .ok (.putfield 19, 3) := by decide +kernel
theorem dX2_look_87 : decode cX2_look 87 = .ok (.aload_n 0, 1) := by decide +kernel
theorem dX2_look_88 : decode cX2_look 88 = .ok (.aload_n 0, 1) := by decide +kernel
theorem dX2_look_89 : decode cX2_look 89 = .ok (.getfield 22, 3) := by decide +kernel
theorem dX2_look_92 : decode cX2_look 92 = .ok (.iconst 1, 1) := by decide +kernel
theorem dX2_look_93 : decode cX2_look 93 = .ok (.iadd, 1) := by decide +kernel
theorem dX2_look_94 : decode cX2_look 94 = .ok (.putfield 25, 3) := by decide +kernel
theorem dX2_look_97 : decode cX2_look 97 = .ok (.aload_n 0, 1) := by decide +kernel
theorem dX2_look_98 : decode cX2_look 98 = .ok (.getfield 19, 3) := by decide +kernel
theorem dX2_look_101 : decode cX2_look 101 = .ok (.iconst 1, 1) := by decide +kernel
theorem dX2_look_102 : decode cX2_look 102 = .ok (.if_icmp .eq 11, 3) := by decide +kernel
theorem dX2_look_105 : decode cX2_look 105 = .ok (.aload_n 0, 1) := by decide +kernel
theorem dX2_look_106 : decode cX2_look 106 = .ok (.getfield 19, 3) := by decide +kernel
theorem dX2_look_109 : decode cX2_look 109 = .ok (.iconst 2, 1) := by decide +kernel
theorem dX2_look_110 : decode cX2_look 110 = .ok (.if_icmp .ne 46, 3) := by decide +kernel
theorem dX2_look_113 : decode cX2_look 113 = .ok (.aload_n 0, 1) := by decide +kernel
theorem dX2_look_114 : decode cX2_look 114 = .ok (.getfield 25, 3) := by decide +kernel
theorem dX2_look_117 : decode cX2_look 117 = .ok (.aload_n 0, 1) := by decide +kernel
theorem dX2_look_118 : decode cX2_look 118 = .ok (.getfield 9, 3) := by decide +kernel
theorem dX2_look_121 : decode cX2_look 121 = .ok (.if_icmp .ge 35, 3) := by decide +kernel
theorem dX2_look_124 : decode cX2_look 124 = .ok (.aload_n 0, 1) := by decide +kernel
theorem dX2_look_125 : decode cX2_look 125 = .ok (.getfield 15, 3) := by decide +kernel
theorem dX2_look_128 : decode cX2_look 128 = .ok (.aload_n 0, 1) := by decide +kernel
theorem dX2_look_129 : decode cX2_look 129 = .ok (.getfield 25, 3) := by decide +kernel
theorem dX2_look_132 : decode cX2_look 132 = .ok (.iaload, 1) := by decide +kernel
theorem dX2_look_133 : decode cX2_look 133 = .ok (.invokestatic 127, 3) := by decide +kernel
theorem dX2_look_136 : decode cX2_look 136 = .ok (.aload_n 0, 1) := by decide +kernel
theorem dX2_look_137 : decode cX2_look 137 = .ok (.getfield 19, 3) := by decide +kernel
theorem dX2_look_140 : decode cX2_look 140 = .ok (.if_icmp .ne 16, 3) := by decide +kernel
theorem dX2_look_143 : decode cX2_look 143 = .ok (.aload_n 0, 1) := by decide +kernel
theorem dX2_look_144 : decode cX2_look 144 = .ok (.dup, 1) := by decide +kernel
theorem dX2_look_145 : decode cX2_look 145 = .ok (.getfield 25, 3) := by decide +kernel
theorem dX2_look_148 : decode cX2_look 148 = .ok (.iconst 1, 1) := by decide +kernel
theorem dX2_look_149 : decode cX2_look 149 = .ok (.iadd, 1) := by decide +kernel
theorem dX2_look_150 : decode cX2_look 150 = .ok (.putfield 25, 3) := by decide +kernel
theorem dX2_look_153 : decode cX2_look 153 = .ok (.goto (-40), 3) := by decide +kernel
theorem dX2_look_156 : decode cX2_look 156 = .ok (.aload_n 0, 1) := by decide +kernel
theorem dX2_look_157 : decode cX2_look 157 = .ok (.getfield 19, 3) := by decide +kernel
theorem dX2_look_160 : decode cX2_look 160 = .ok (.iconst 2, 1) := by decide +kernel
theorem dX2_look_161 : decode cX2_look 161 = .ok (.if_icmp .ne 7, 3) := by decide +kernel
theorem dX2_look_164 : decode cX2_look 164 = .ok (.aload_n 0, 1) := by decide +kernel
theorem dX2_look_165 : decode cX2_look 165 = .ok (.invokevirtual 131, 3) := by decide +kernel
theorem dX2_look_168 : decode cX2_look 168 = .ok (.return_, 1) := by decide +kernel
theorem dX2_weigh_0 : decode cX2_weigh 0 = .ok (.aload_n 0, 1) := by decide +kernel
theorem dX2_weigh_1 : decode cX2_weigh 1 = .ok (.iconst 0, 1) := by decide +kernel
theorem dX2_weigh_2 : decode cX2_weigh 2 = .ok (.putfield 28, 3) := by decide +kernel
theorem dX2_weigh_5 : decode cX2_weigh 5 = .ok (.aload_n 0, 1) := by decide +kernel
theorem dX2_weigh_6 : decode cX2_weigh 6 = .ok (.getfield 22, 3) := by decide +kernel
theorem dX2_weigh_9 : decode cX2_weigh 9 = .ok (.istore_n 1, 1) := by decide +kernel
theorem dX2_weigh_10 : decode cX2_weigh 10 = .ok (.iload_n 1, 1) := by decide +kernel
theorem dX2_weigh_11 : decode cX2_weigh 11 = .ok (.aload_n 0, 1) := by decide +kernel
theorem dX2_weigh_12 : decode cX2_weigh 12 = .ok (.getfield 25, 3) := by decide +kernel
theorem dX2_weigh_15 : decode cX2_weigh 15 = .ok (.if_icmp .ge 36, 3) := by decide +kernel
theorem dX2_weigh_18 : decode cX2_weigh 18 = .ok (.aload_n 0, 1) := by decide +kernel
theorem dX2_weigh_19 : decode cX2_weigh 19 = .ok (.aload_n 0, 1) := by decide +kernel
theorem dX2_weigh_20 : decode cX2_weigh 20 = .ok (.getfield 28, 3) := by decide +kernel
theorem dX2_weigh_23 : decode cX2_weigh 23 = .ok (.bipush 10, 2) := by decide +kernel
theorem dX2_weigh_25 : decode cX2_weigh 25 = .ok (.imul, 1) := by decide +kernel
theorem dX2_weigh_26 : decode cX2_weigh 26 = .ok (.aload_n 0, 1) := by decide +kernel
theorem dX2_weigh_27 : decode cX2_weigh 27 = .ok (.getfield 15, 3) := by decide +kernel
theorem dX2_weigh_30 : decode cX2_weigh 30 = .ok (.iload_n 1, 1) := by decide +kernel
theorem dX2_weigh_31 : decode cX2_weigh 31 = .ok (.iaload, 1) := by decide +kernel
theorem dX2_weigh_32 : decode cX2_weigh 32 = .ok (.iadd, 1) := by decide +kernel
theorem dX2_weigh_33 : decode cX2_weigh 33 = .ok (.bipush 48, 2) := by decide +kernel
theorem dX2_weigh_35 : decode cX2_weigh 35 = .ok (.isub, 1) := by decide +kernel
theorem dX2_weigh_36 : decode cX2_weigh 36 = .ok (.sipush 1000, 3) := by decide +kernel
theorem dX2_weigh_39 : decode cX2_weigh 39 = .ok (.invokestatic 134, 3) := by decide +kernel
theorem dX2_weigh_42 : decode cX2_weigh 42 = .ok (.putfield 28, 3) := by decide +kernel
theorem dX2_weigh_45 : decode cX2_weigh 45 = .ok (.iinc 1 1, 3) := by decide +kernel
theorem dX2_weigh_48 : decode cX2_weigh 48 = .ok (.goto (-38), 3) := by decide +kernel
theorem dX2_weigh_51 : decode cX2_weigh 51 = .ok (.return_, 1) := by decide +kernel
theorem dX2_typeOf_0 : decode cX2_typeOf 0 = .ok (.iload_n 0, 1) := by decide +kernel
theorem dX2_typeOf_1 : decode cX2_typeOf 1 = .ok (.bipush 97, 2) := by decide +kernel
theorem dX2_typeOf_3 : decode cX2_typeOf 3 = .ok (.if_icmp .lt 11, 3) := by decide +kernel
theorem dX2_typeOf_6 : decode cX2_typeOf 6 = .ok (.iload_n 0, 1) := by decide +kernel
theorem dX2_typeOf_7 : decode cX2_typeOf 7 = .ok (.bipush 122, 2) := by decide +kernel
theorem dX2_typeOf_9 : decode cX2_typeOf 9 = .ok (.if_icmp .gt 5, 3) := by decide +kernel
theorem dX2_typeOf_12 : decode cX2_typeOf 12 = .ok (.iconst 1, 1) := by decide +kernel
theorem dX2_typeOf_13 : decode cX2_typeOf 13 = .ok (.ireturn, 1) := by decide +kernel
theorem dX2_typeOf_14 : decode cX2_typeOf 14 = .ok (.iload_n 0, 1) := by decide +kernel
theorem dX2_typeOf_15 : decode cX2_typeOf 15 = .ok (.bipush 48, 2) := by decide +kernel
theorem dX2_typeOf_17 : decode cX2_typeOf 17 = .ok (.if_icmp .lt 11, 3) := by decide +kernel
theorem dX2_typeOf_20 : decode cX2_typeOf 20 = .ok (.iload_n 0, 1) := by decide +kernel
theorem dX2_typeOf_21 : decode cX2_typeOf 21 = .ok (.bipush 57, 2) := by decide +kernel
theorem dX2_typeOf_23 : decode cX2_typeOf 23 = .ok (.if_icmp .gt 5, 3) := by decide +kernel
theorem dX2_typeOf_26 : decode cX2_typeOf 26 = .ok (.iconst 2, 1) := by decide +kernel
theorem dX2_typeOf_27 : decode cX2_typeOf 27 = .ok (.ireturn, 1) := by decide +kernel
theorem dX2_typeOf_28 : decode cX2_typeOf 28 = .ok (.iload_n 0, 1) := by decide +kernel
theorem dX2_typeOf_29 : decode cX2_typeOf 29 = .ok (.bipush 59, 2) := by decide +kernel
theorem dX2_typeOf_31 : decode cX2_typeOf 31 = .ok (.if_icmp .ne 7, 3) := by decide +kernel
theorem dX2_typeOf_34 : decode cX2_typeOf 34 = .ok (.iconst 3, 1) := by decide +kernel
theorem dX2_typeOf_35 : decode cX2_typeOf 35 = .ok (.goto 4, 3) := by decide +kernel
theorem dX2_typeOf_38 : decode cX2_typeOf 38 = .ok (.iconst 4, 1) := by decide +kernel
theorem dX2_typeOf_39 : decode cX2_typeOf 39 = .ok (.ireturn, 1) := by decide +kernel
theorem dJ0_length_8abf5_0 : decode cJ0_length_8abf5 0 = .ok (.aload_n 0, 1) := by decide +kernel
theorem dJ0_length_8abf5_1 : decode cJ0_length_8abf5 1 = .ok (.getfield 9, 3) := by decide +kernel
theorem dJ0_length_8abf5_4 : decode cJ0_length_8abf5 4 = .ok (.arraylength, 1) := by decide +kernel
theorem dJ0_length_8abf5_5 : decode cJ0_length_8abf5 5 = .ok (.aload_n 0, 1) := by decide +kernel
theorem dJ0_length_8abf5_6 : decode cJ0_length_8abf5 6 = .ok (.invokevirtual 335, 3) := by decide +kernel
theorem dJ0_length_8abf5_9 : decode cJ0_length_8abf5 9 = .ok (.ishr, 1) := by decide +kernel
theorem dJ0_length_8abf5_10 : decode cJ0_length_8abf5 10 = .ok (.ireturn, 1) := by decide +kernel
theorem dJ0_charAt_5068e_0 : decode cJ0_charAt_5068e 0 = .ok (.aload_n 0, 1) := by decide +kernel
theorem dJ0_charAt_5068e_1 : decode cJ0_charAt_5068e 1 = .ok (.invokevirtual 492, 3) := by decide +kernel
theorem dJ0_charAt_5068e_4 : decode cJ0_charAt_5068e 4 = .ok (.ifCond .eq 12, 3) := by decide +kernel
theorem dJ0_charAt_5068e_7 : decode cJ0_charAt_5068e 7 = .ok (.aload_n 0, 1) := by decide +kernel
theorem dJ0_charAt_5068e_8 : decode cJ0_charAt_5068e 8 = .ok (.getfield 9, 3) := by decide +kernel
theorem dJ0_charAt_5068e_11 : decode cJ0_charAt_5068e 11 = .ok (.iload_n 1, 1) := by decide +kernel
theorem dJ0_charAt_5068e_12 : decode cJ0_charAt_5068e 12 = .ok (.invokestatic 495, 3) := by decide +kernel
theorem dJ0_charAt_5068e_15 : decode cJ0_charAt_5068e 15 = .ok (.ireturn, 1) := by decide +kernel
theorem dJ0_charAt_5068e_16 : decode cJ0_charAt_5068e 16 = .ok (.aload_n 0, 1) := by decide +kernel
theorem dJ0_charAt_5068e_17 : decode cJ0_charAt_5068e 17 = .ok (.getfield 9, 3) := by decide +kernel
theorem dJ0_charAt_5068e_20 : decode cJ0_charAt_5068e 20 = .ok (.iload_n 1, 1) := by decide +kernel
theorem dJ0_charAt_5068e_21 : decode cJ0_charAt_5068e 21 = .ok (.invokestatic 498, 3) := by decide +kernel
theorem dJ0_charAt_5068e_24 : decode cJ0_charAt_5068e 24 = .ok (.ireturn, 1) := by decide +kernel
theorem dJ0_coder_7d493_0 : decode cJ0_coder_7d493 0 = .ok (.getstatic 38, 3) := by decide +kernel
theorem dJ0_coder_7d493_3 : decode cJ0_coder_7d493 3 = .ok (.ifCond .eq 10, 3) := by decide +kernel
theorem dJ0_coder_7d493_6 : decode cJ0_coder_7d493 6 = .ok (.aload_n 0, 1) := by decide +kernel
theorem dJ0_coder_7d493_7 : decode cJ0_coder_7d493 7 = .ok (.getfield 15, 3) := by decide +kernel
theorem dJ0_coder_7d493_10 : decode cJ0_coder_7d493 10 = .ok (.goto 4, 3) := by decide +kernel
theorem dJ0_coder_7d493_13 : decode cJ0_coder_7d493 13 = .ok (.iconst 1, 1) := by decide +kernel
theorem dJ0_coder_7d493_14 : decode cJ0_coder_7d493 14 = .ok (.ireturn, 1) := by decide +kernel
theorem dJ0_isLatin1_aae02_0 : decode cJ0_isLatin1_aae02 0 = .ok (.getstatic 38, 3) := by decide +kernel
theorem dJ0_isLatin1_aae02_3 : decode cJ0_isLatin1_aae02 3 = .ok (.ifCond .eq 14, 3) := by decide +kernel
theorem dJ0_isLatin1_aae02_6 : decode cJ0_isLatin1_aae02 6 = .ok (.aload_n 0, 1) := by decide +kernel
theorem dJ0_isLatin1_aae02_7 : decode cJ0_isLatin1_aae02 7 = .ok (.getfield 15, 3) := by decide +kernel
theorem dJ0_isLatin1_aae02_10 : decode cJ0_isLatin1_aae02 10 = .ok (.ifCond .ne 7, 3) := by decide +kernel
theorem dJ0_isLatin1_aae02_13 : decode cJ0_isLatin1_aae02 13 = .ok (.iconst 1, 1) := by decide +kernel
theorem dJ0_isLatin1_aae02_14 : decode cJ0_isLatin1_aae02 14 = .ok (.goto 4, 3) := by decide +kernel
theorem dJ0_isLatin1_aae02_17 : decode cJ0_isLatin1_aae02 17 = .ok (.iconst 0, 1) := by decide +kernel
theorem dJ0_isLatin1_aae02_18 : decode cJ0_isLatin1_aae02 18 = .ok (.ireturn, 1) := by decide +kernel
theorem dJ0_checkIndex_df160_0 : decode cJ0_checkIndex_df160 0 = .ok (.iload_n 0, 1) := by decide +kernel
theorem dJ0_checkIndex_df160_1 : decode cJ0_checkIndex_df160 1 = .ok (.iload_n 1, 1) := by decide +kernel
theorem dJ0_checkIndex_df160_2 : decode cJ0_checkIndex_df160 2 = .ok (.getstatic 1053, 3) := by decide +kernel
theorem dJ0_checkIndex_df160_5 : decode cJ0_checkIndex_df160 5 = .ok (.invokestatic 1059, 3) := by decide +kernel
theorem dJ0_checkIndex_df160_8 : decode cJ0_checkIndex_df160 8 = .ok (.pop, 1) := by decide +kernel
theorem dJ0_checkIndex_df160_9 : decode cJ0_checkIndex_df160 9 = .ok (.return_, 1) := by decide +kernel
theorem dJ1_charAt_3b067_0 : decode cJ1_charAt_3b067 0 = .ok (.iload_n 1, 1) := by decide +kernel
theorem dJ1_charAt_3b067_1 : decode cJ1_charAt_3b067 1 = .ok (.aload_n 0, 1) := by decide +kernel
theorem dJ1_charAt_3b067_2 : decode cJ1_charAt_3b067 2 = .ok (.arraylength, 1) := by decide +kernel
theorem dJ1_charAt_3b067_3 : decode cJ1_charAt_3b067 3 = .ok (.invokestatic 9, 3) := by decide +kernel
theorem dJ1_charAt_3b067_6 : decode cJ1_charAt_3b067 6 = .ok (.aload_n 0, 1) := by decide +kernel
theorem dJ1_charAt_3b067_7 : decode cJ1_charAt_3b067 7 = .ok (.iload_n 1, 1) := by decide +kernel
theorem dJ1_charAt_3b067_8 : decode cJ1_charAt_3b067 8 = .ok (.baload, 1) := by decide +kernel
theorem dJ1_charAt_3b067_9 : decode cJ1_charAt_3b067 9 = .ok (.sipush 255, 3) := by decide +kernel
theorem dJ1_charAt_3b067_12 : decode cJ1_charAt_3b067 12 = .ok (.iand, 1) := by decide +kernel
theorem dJ1_charAt_3b067_13 : decode cJ1_charAt_3b067 13 = .ok (.i2c, 1) := by decide +kernel
theorem dJ1_charAt_3b067_14 : decode cJ1_charAt_3b067 14 = .ok (.ireturn, 1) := by decide +kernel
theorem dJ2_getChar_3b067_0 : decode cJ2_getChar_3b067 0 = .ok (.getstatic 44, 3) := by decide +kernel
theorem dJ2_getChar_3b067_3 : decode cJ2_getChar_3b067 3 = .ok (.ifCond .ne 25, 3) := by decide +kernel
theorem dJ2_getChar_3b067_6 : decode cJ2_getChar_3b067 6 = .ok (.iload_n 1, 1) := by decide +kernel
theorem dJ2_getChar_3b067_7 : decode cJ2_getChar_3b067 7 = .ok (.ifCond .lt 11, 3) := by decide +kernel
theorem dJ2_getChar_3b067_10 : decode cJ2_getChar_3b067 10 = .ok (.iload_n 1, 1) := by decide +kernel
theorem dJ2_getChar_3b067_11 : decode cJ2_getChar_3b067 11 = .ok (.aload_n 0, 1) := by decide +kernel
theorem dJ2_getChar_3b067_12 : decode cJ2_getChar_3b067 12 = .ok (.invokestatic 48, 3) := by decide +kernel
theorem dJ2_getChar_3b067_15 : decode cJ2_getChar_3b067 15 = .ok (.if_icmp .lt 13, 3) := by decide +kernel
theorem dJ2_getChar_3b067_18 : decode cJ2_getChar_3b067 18 = .ok (.new 52, 3) := by decide +kernel
theorem dJ2_getChar_3b067_21 : decode cJ2_getChar_3b067 21 = .ok (.dup, 1) := by decide +kernel
theorem dJ2_getChar_3b067_22 : decode cJ2_getChar_3b067 22 = .ok (.ldc 54, 2) := by decide +kernel
theorem dJ2_getChar_3b067_24 : decode cJ2_getChar_3b067 24 = .ok (.invokespecial 56, 3) := by decide +kernel
theorem dJ2_getChar_3b067_27 : decode cJ2_getChar_3b067 27 = .ok (.athrow, 1) := by decide +kernel
theorem dJ2_getChar_3b067_28 : decode cJ2_getChar_3b067 28 = .ok (.iload_n 1, 1) := by decide +kernel
theorem dJ2_getChar_3b067_29 : decode cJ2_getChar_3b067 29 = .ok (.iconst 1, 1) := by decide +kernel
theorem dJ2_getChar_3b067_30 : decode cJ2_getChar_3b067 30 = .ok (.ishl, 1) := by decide +kernel
theorem dJ2_getChar_3b067_31 : decode cJ2_getChar_3b067 31 = .ok (.istore_n 1, 1) := by decide +kernel
theorem dJ2_getChar_3b067_32 : decode cJ2_getChar_3b067 32 = .ok (.aload_n 0, 1) := by decide +kernel
theorem dJ2_getChar_3b067_33 : decode cJ2_getChar_3b067 33 = .ok (.iload_n 1, 1) := by decide +kernel
theorem dJ2_getChar_3b067_34 : decode cJ2_getChar_3b067 34 = .ok (.iinc 1 1, 3) := by decide +kernel
theorem dJ2_getChar_3b067_37 : decode cJ2_getChar_3b067 37 = .ok (.baload, 1) := by decide +kernel
theorem dJ2_getChar_3b067_38 : decode cJ2_getChar_3b067 38 = .ok (.sipush 255, 3) := by decide +kernel
theorem dJ2_getChar_3b067_41 : decode cJ2_getChar_3b067 41 = .ok (.iand, 1) := by decide +kernel
theorem dJ2_getChar_3b067_42 : decode cJ2_getChar_3b067 42 = .ok (.getstatic 59, 3) := by decide +kernel
theorem dJ2_getChar_3b067_45 : decode cJ2_getChar_3b067 45 = .ok (.ishl, 1) := by decide +kernel
theorem dJ2_getChar_3b067_46 : decode cJ2_getChar_3b067 46 = .ok (.aload_n 0, 1) := by decide +kernel
theorem dJ2_getChar_3b067_47 : decode cJ2_getChar_3b067 47 = .ok (.iload_n 1, 1) := by decide +kernel
theorem dJ2_getChar_3b067_48 : decode cJ2_getChar_3b067 48 = .ok (.baload, 1) := by decide +kernel
theorem dJ2_getChar_3b067_49 : decode cJ2_getChar_3b067 49 = .ok (.sipush 255, 3) := by decide +kernel
theorem dJ2_getChar_3b067_52 : decode cJ2_getChar_3b067 52 = .ok (.iand, 1) := by decide +kernel
theorem dJ2_getChar_3b067_53 : decode cJ2_getChar_3b067 53 = .ok (.getstatic 63, 3) := by decide +kernel
theorem dJ2_getChar_3b067_56 : decode cJ2_getChar_3b067 56 = .ok (.ishl, 1) := by decide +kernel
theorem dJ2_getChar_3b067_57 : decode cJ2_getChar_3b067 57 = .ok (.ior, 1) := by decide +kernel
theorem dJ2_getChar_3b067_58 : decode cJ2_getChar_3b067 58 = .ok (.i2c, 1) := by decide +kernel
theorem dJ2_getChar_3b067_59 : decode cJ2_getChar_3b067 59 = .ok (.ireturn, 1) := by decide +kernel
theorem dJ2_length_9d52b_0 : decode cJ2_length_9d52b 0 = .ok (.aload_n 0, 1) := by decide +kernel
theorem dJ2_length_9d52b_1 : decode cJ2_length_9d52b 1 = .ok (.arraylength, 1) := by decide +kernel
theorem dJ2_length_9d52b_2 : decode cJ2_length_9d52b 2 = .ok (.iconst 1, 1) := by decide +kernel
theorem dJ2_length_9d52b_3 : decode cJ2_length_9d52b 3 = .ok (.ishr, 1) := by decide +kernel
theorem dJ2_length_9d52b_4 : decode cJ2_length_9d52b 4 = .ok (.ireturn, 1) := by decide +kernel
theorem dJ2_charAt_3b067_0 : decode cJ2_charAt_3b067 0 = .ok (.iload_n 1, 1) := by decide +kernel
theorem dJ2_charAt_3b067_1 : decode cJ2_charAt_3b067 1 = .ok (.aload_n 0, 1) := by decide +kernel
theorem dJ2_charAt_3b067_2 : decode cJ2_charAt_3b067 2 = .ok (.invokestatic 67, 3) := by decide +kernel
theorem dJ2_charAt_3b067_5 : decode cJ2_charAt_3b067 5 = .ok (.aload_n 0, 1) := by decide +kernel
theorem dJ2_charAt_3b067_6 : decode cJ2_charAt_3b067 6 = .ok (.iload_n 1, 1) := by decide +kernel
theorem dJ2_charAt_3b067_7 : decode cJ2_charAt_3b067 7 = .ok (.invokestatic 71, 3) := by decide +kernel
theorem dJ2_charAt_3b067_10 : decode cJ2_charAt_3b067 10 = .ok (.ireturn, 1) := by decide +kernel
theorem dJ2_checkIndex_2214a_0 : decode cJ2_checkIndex_2214a 0 = .ok (.iload_n 0, 1) := by decide +kernel
theorem dJ2_checkIndex_2214a_1 : decode cJ2_checkIndex_2214a 1 = .ok (.aload_n 1, 1) := by decide +kernel
theorem dJ2_checkIndex_2214a_2 : decode cJ2_checkIndex_2214a 2 = .ok (.invokestatic 48, 3) := by decide +kernel
theorem dJ2_checkIndex_2214a_5 : decode cJ2_checkIndex_2214a 5 = .ok (.invokestatic 414, 3) := by decide +kernel
theorem dJ2_checkIndex_2214a_8 : decode cJ2_checkIndex_2214a 8 = .ok (.return_, 1) := by decide +kernel
theorem dJ3_checkIndex_8e157_0 : decode cJ3_checkIndex_8e157 0 = .ok (.iload_n 0, 1) := by decide +kernel
theorem dJ3_checkIndex_8e157_1 : decode cJ3_checkIndex_8e157 1 = .ok (.ifCond .lt 8, 3) := by decide +kernel
theorem dJ3_checkIndex_8e157_4 : decode cJ3_checkIndex_8e157 4 = .ok (.iload_n 0, 1) := by decide +kernel
theorem dJ3_checkIndex_8e157_5 : decode cJ3_checkIndex_8e157 5 = .ok (.iload_n 1, 1) := by decide +kernel
theorem dJ3_checkIndex_8e157_6 : decode cJ3_checkIndex_8e157 6 = .ok (.if_icmp .lt 10, 3) := by decide +kernel
theorem dJ3_checkIndex_8e157_9 : decode cJ3_checkIndex_8e157 9 = .ok (.aload_n 2, 1) := by decide +kernel
theorem dJ3_checkIndex_8e157_10 : decode cJ3_checkIndex_8e157 10 = .ok (.iload_n 0, 1) := by decide +kernel
theorem dJ3_checkIndex_8e157_11 : decode cJ3_checkIndex_8e157 11 = .ok (.iload_n 1, 1) := by decide +kernel
theorem dJ3_checkIndex_8e157_12 : decode cJ3_checkIndex_8e157 12 = .ok (.invokestatic 95, 3) := by decide +kernel
theorem dJ3_checkIndex_8e157_15 : decode cJ3_checkIndex_8e157 15 = .ok (.athrow, 1) := by decide +kernel
theorem dJ3_checkIndex_8e157_16 : decode cJ3_checkIndex_8e157 16 = .ok (.iload_n 0, 1) := by decide +kernel
theorem dJ3_checkIndex_8e157_17 : decode cJ3_checkIndex_8e157 17 = .ok (.ireturn, 1) := by decide +kernel
theorem dJ6_bitCount_0f7a4_0 : decode cJ6_bitCount_0f7a4 0 = .ok (.iload_n 0, 1) := by decide +kernel
theorem dJ6_bitCount_0f7a4_1 : decode cJ6_bitCount_0f7a4 1 = .ok (.iload_n 0, 1) := by decide +kernel
theorem dJ6_bitCount_0f7a4_2 : decode cJ6_bitCount_0f7a4 2 = .ok (.iconst 1, 1) := by decide +kernel
theorem dJ6_bitCount_0f7a4_3 : decode cJ6_bitCount_0f7a4 3 = .ok (.iushr, 1) := by decide +kernel
theorem dJ6_bitCount_0f7a4_4 : decode cJ6_bitCount_0f7a4 4 = .ok (.ldc_w 265, 3) := by decide +kernel
theorem dJ6_bitCount_0f7a4_7 : decode cJ6_bitCount_0f7a4 7 = .ok (.iand, 1) := by decide +kernel
theorem dJ6_bitCount_0f7a4_8 : decode cJ6_bitCount_0f7a4 8 = .ok (.isub, 1) := by decide +kernel
theorem dJ6_bitCount_0f7a4_9 : decode cJ6_bitCount_0f7a4 9 = .ok (.istore_n 0, 1) := by decide +kernel
theorem dJ6_bitCount_0f7a4_10 : decode cJ6_bitCount_0f7a4 10 = .ok (.iload_n 0, 1) := by decide +kernel
theorem dJ6_bitCount_0f7a4_11 : decode cJ6_bitCount_0f7a4 11 = .ok (.ldc_w 266, 3) := by decide +kernel
theorem dJ6_bitCount_0f7a4_14 : decode cJ6_bitCount_0f7a4 14 = .ok (.iand, 1) := by decide +kernel
theorem dJ6_bitCount_0f7a4_15 : decode cJ6_bitCount_0f7a4 15 = .ok (.iload_n 0, 1) := by decide +kernel
theorem dJ6_bitCount_0f7a4_16 : decode cJ6_bitCount_0f7a4 16 = .ok (.iconst 2, 1) := by decide +kernel
theorem dJ6_bitCount_0f7a4_17 : decode cJ6_bitCount_0f7a4 17 = .ok (.iushr, 1) := by decide +kernel
theorem dJ6_bitCount_0f7a4_18 : decode cJ6_bitCount_0f7a4 18 = .ok (.ldc_w 266, 3) := by decide +kernel
theorem dJ6_bitCount_0f7a4_21 : decode cJ6_bitCount_0f7a4 21 = .ok (.iand, 1) := by decide +kernel
theorem dJ6_bitCount_0f7a4_22 : decode cJ6_bitCount_0f7a4 22 = .ok (.iadd, 1) := by decide +kernel
theorem dJ6_bitCount_0f7a4_23 : decode cJ6_bitCount_0f7a4 23 = .ok (.istore_n 0, 1) := by decide +kernel
theorem dJ6_bitCount_0f7a4_24 : decode cJ6_bitCount_0f7a4 24 = .ok (.iload_n 0, 1) := by decide +kernel
theorem dJ6_bitCount_0f7a4_25 : decode cJ6_bitCount_0f7a4 25 = .ok (.iload_n 0, 1) := by decide +kernel
theorem dJ6_bitCount_0f7a4_26 : decode cJ6_bitCount_0f7a4 26 = .ok (.iconst 4, 1) := by decide +kernel
theorem dJ6_bitCount_0f7a4_27 : decode cJ6_bitCount_0f7a4 27 = .ok (.iushr, 1) := by decide +kernel
theorem dJ6_bitCount_0f7a4_28 : decode cJ6_bitCount_0f7a4 28 = .ok (.iadd, 1) := by decide +kernel
theorem dJ6_bitCount_0f7a4_29 : decode cJ6_bitCount_0f7a4 29 = .ok (.ldc_w 267, 3) := by decide +kernel
theorem dJ6_bitCount_0f7a4_32 : decode cJ6_bitCount_0f7a4 32 = .ok (.iand, 1) := by decide +kernel
theorem dJ6_bitCount_0f7a4_33 : decode cJ6_bitCount_0f7a4 33 = .ok (.istore_n 0, 1) := by decide +kernel
theorem dJ6_bitCount_0f7a4_34 : decode cJ6_bitCount_0f7a4 34 = .ok (.iload_n 0, 1) := by decide +kernel
theorem dJ6_bitCount_0f7a4_35 : decode cJ6_bitCount_0f7a4 35 = .ok (.iload_n 0, 1) := by decide +kernel
theorem dJ6_bitCount_0f7a4_36 : decode cJ6_bitCount_0f7a4 36 = .ok (.bipush 8, 2) := by decide +kernel
theorem dJ6_bitCount_0f7a4_38 : decode cJ6_bitCount_0f7a4 38 = .ok (.iushr, 1) := by decide +kernel
theorem dJ6_bitCount_0f7a4_39 : decode cJ6_bitCount_0f7a4 39 = .ok (.iadd, 1) := by decide +kernel
theorem dJ6_bitCount_0f7a4_40 : decode cJ6_bitCount_0f7a4 40 = .ok (.istore_n 0, 1) := by decide +kernel
theorem dJ6_bitCount_0f7a4_41 : decode cJ6_bitCount_0f7a4 41 = .ok (.iload_n 0, 1) := by decide +kernel
theorem dJ6_bitCount_0f7a4_42 : decode cJ6_bitCount_0f7a4 42 = .ok (.iload_n 0, 1) := by decide +kernel
theorem dJ6_bitCount_0f7a4_43 : decode cJ6_bitCount_0f7a4 43 = .ok (.bipush 16, 2) := by decide +kernel
theorem dJ6_bitCount_0f7a4_45 : decode cJ6_bitCount_0f7a4 45 = .ok (.iushr, 1) := by decide +kernel
theorem dJ6_bitCount_0f7a4_46 : decode cJ6_bitCount_0f7a4 46 = .ok (.iadd, 1) := by decide +kernel
theorem dJ6_bitCount_0f7a4_47 : decode cJ6_bitCount_0f7a4 47 = .ok (.istore_n 0, 1) := by decide +kernel
theorem dJ6_bitCount_0f7a4_48 : decode cJ6_bitCount_0f7a4 48 = .ok (.iload_n 0, 1) := by decide +kernel
theorem dJ6_bitCount_0f7a4_49 : decode cJ6_bitCount_0f7a4 49 = .ok (.bipush 63, 2) := by decide +kernel
theorem dJ6_bitCount_0f7a4_51 : decode cJ6_bitCount_0f7a4 51 = .ok (.iand, 1) := by decide +kernel
theorem dJ6_bitCount_0f7a4_52 : decode cJ6_bitCount_0f7a4 52 = .ok (.ireturn, 1) := by decide +kernel
theorem dJ9_min_7cf53_0 : decode cJ9_min_7cf53 0 = .ok (.iload_n 0, 1) := by decide +kernel
theorem dJ9_min_7cf53_1 : decode cJ9_min_7cf53 1 = .ok (.iload_n 1, 1) := by decide +kernel
theorem dJ9_min_7cf53_2 : decode cJ9_min_7cf53 2 = .ok (.if_icmp .gt 7, 3) := by decide +kernel
theorem dJ9_min_7cf53_5 : decode cJ9_min_7cf53 5 = .ok (.iload_n 0, 1) := by decide +kernel
theorem dJ9_min_7cf53_6 : decode cJ9_min_7cf53 6 = .ok (.goto 4, 3) := by decide +kernel
theorem dJ9_min_7cf53_9 : decode cJ9_min_7cf53 9 = .ok (.iload_n 1, 1) := by decide +kernel
theorem dJ9_min_7cf53_10 : decode cJ9_min_7cf53 10 = .ok (.ireturn, 1) := by decide +kernel
