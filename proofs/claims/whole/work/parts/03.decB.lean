theorem dX3_init_0 : decode cX3_init 0 = .ok (.aload_n 0, 1) := by decide +kernel
theorem dX3_init_1 : decode cX3_init 1 = .ok (.invokespecial 1, 3) := by decide +kernel
theorem dX3_init_4 : decode cX3_init 4 = .ok (.aload_n 0, 1) := by decide +kernel
theorem dX3_init_5 : decode cX3_init 5 = .ok (.new 7, 3) := by decide +kernel
theorem dX3_init_8 : decode cX3_init 8 = .ok (.dup, 1) := by decide +kernel
theorem dX3_init_9 : decode cX3_init 9 = .ok (.invokespecial 9, 3) := by decide +kernel
theorem dX3_init_12 : decode cX3_init 12 = .ok (.putfield 10, 3) := by decide +kernel
theorem dX3_init_15 : decode cX3_init 15 = .ok (.aload_n 0, 1) := by decide +kernel
theorem dX3_init_16 : decode cX3_init 16 = .ok (.new 7, 3) := by decide +kernel
theorem dX3_init_19 : decode cX3_init 19 = .ok (.dup, 1) := by decide +kernel
theorem dX3_init_20 : decode cX3_init 20 = .ok (.invokespecial 9, 3) := by decide +kernel
theorem dX3_init_23 : decode cX3_init 23 = .ok (.putfield 16, 3) := by decide +kernel
theorem dX3_init_26 : decode cX3_init 26 = .ok (.aload_n 0, 1) := by decide +kernel
theorem dX3_init_27 : decode cX3_init 27 = .ok (.new 7, 3) := by decide +kernel
theorem dX3_init_30 : decode cX3_init 30 = .ok (.dup, 1) := by decide +kernel
theorem dX3_init_31 : decode cX3_init 31 = .ok (.invokespecial 9, 3) := by decide +kernel
theorem dX3_init_34 : decode cX3_init 34 = .ok (.putfield 19, 3) := by decide +kernel
theorem dX3_init_37 : decode cX3_init 37 = .ok (.aload_n 0, 1) := by decide +kernel
theorem dX3_init_38 : decode cX3_init 38 = .ok (.iconst 0, 1) := by decide +kernel
theorem dX3_init_39 : decode cX3_init 39 = .ok (.putfield 22, 3) := by decide +kernel
theorem dX3_init_42 : decode cX3_init 42 = .ok (.aload_n 0, 1) := by decide +kernel
theorem dX3_init_43 : decode cX3_init 43 = .ok (.new 26, 3) := by decide +kernel
theorem dX3_init_46 : decode cX3_init 46 = .ok (.dup, 1) := by decide +kernel
theorem dX3_init_47 : decode cX3_init 47 = .ok (.invokespecial 28, 3) := by decide +kernel
theorem dX3_init_50 : decode cX3_init 50 = .ok (.putfield 29, 3) := by decide +kernel
theorem dX3_init_53 : decode cX3_init 53 = .ok (.aload_n 0, 1) := by decide +kernel
theorem dX3_init_54 : decode cX3_init 54 = .ok (.iconst 4, 1) := by decide +kernel
theorem dX3_init_55 : decode cX3_init 55 = .ok (.anewarray 33, 3) := by decide +kernel
theorem dX3_init_58 : decode cX3_init 58 = .ok (.putfield 35, 3) := by decide +kernel
theorem dX3_init_61 : decode cX3_init 61 = .ok (.aload_n 0, 1) := by decide +kernel
theorem dX3_init_62 : decode cX3_init 62 = .ok (.bipush 7, 2) := by decide +kernel
theorem dX3_init_64 : decode cX3_init 64 = .ok (.newarray .int, 2) := by decide +kernel
theorem dX3_init_66 : decode cX3_init 66 = .ok (.putfield 39, 3) := by decide +kernel
theorem dX3_init_69 : decode cX3_init 69 = .ok (.iconst 0, 1) := by decide +kernel
theorem dX3_init_70 : decode cX3_init 70 = .ok (.istore_n 1, 1) := by decide +kernel
theorem dX3_init_71 : decode cX3_init 71 = .ok (.iload_n 1, 1) := by decide +kernel
theorem dX3_init_72 : decode cX3_init 72 = .ok (.iconst 4, 1) := by decide +kernel
theorem dX3_init_73 : decode cX3_init 73 = .ok (.if_icmp .ge 22, 3) := by decide +kernel
theorem dX3_init_76 : decode cX3_init 76 = .ok (.aload_n 0, 1) := by decide +kernel
theorem dX3_init_77 : decode cX3_init 77 = .ok (.getfield 35, 3) := by decide +kernel
theorem dX3_init_80 : decode cX3_init 80 = .ok (.iload_n 1, 1) := by decide +kernel
theorem dX3_init_81 : decode cX3_init 81 = .ok (.new 33, 3) := by decide +kernel
theorem dX3_init_84 : decode cX3_init 84 = .ok (.dup, 1) := by decide +kernel
theorem dX3_init_85 : decode cX3_init 85 = .ok (.invokespecial 43, 3) := by decide +kernel
theorem dX3_init_88 : decode cX3_init 88 = .ok (.aastore, 1) := by decide +kernel
theorem dX3_init_89 : decode cX3_init 89 = .ok (.iinc 1 1, 3) := by decide +kernel
theorem dX3_init_92 : decode cX3_init 92 = .ok (.goto (-21), 3) := by decide +kernel
theorem dX3_init_95 : decode cX3_init 95 = .ok (.return_, 1) := by decide +kernel
theorem dX3_fog_0 : decode cX3_fog 0 = .ok (.iload_n 1, 1) := by decide +kernel
theorem dX3_fog_1 : decode cX3_fog 1 = .ok (.ifCond .lt 9, 3) := by decide +kernel
theorem dX3_fog_4 : decode cX3_fog 4 = .ok (.iload_n 1, 1) := by decide +kernel
theorem dX3_fog_5 : decode cX3_fog 5 = .ok (.ldc 44, 2) := by decide +kernel
theorem dX3_fog_7 : decode cX3_fog 7 = .ok (.if_icmp .le 10, 3) := by decide +kernel
theorem dX3_fog_10 : decode cX3_fog 10 = .ok (.aload_n 0, 1) := by decide +kernel
theorem dX3_fog_11 : decode cX3_fog 11 = .ok (.ldc 45, 2) := by decide +kernel
theorem dX3_fog_13 : decode cX3_fog 13 = .ok (.invokevirtual 46, 3) := by decide +kernel
theorem dX3_fog_16 : decode cX3_fog 16 = .ok (.ireturn, 1) := by decide +kernel
theorem dX3_fog_17 : decode cX3_fog 17 = .ok (.aload_n 0, 1) := by decide +kernel
theorem dX3_fog_18 : decode cX3_fog 18 = .ok (.getfield 10, 3) := by decide +kernel
theorem dX3_fog_21 : decode cX3_fog 21 = .ok (.getfield 50, 3) := by decide +kernel
theorem dX3_fog_24 : decode cX3_fog 24 = .ok (.istore_n 2, 1) := by decide +kernel
theorem dX3_fog_25 : decode cX3_fog 25 = .ok (.aload_n 0, 1) := by decide +kernel
theorem dX3_fog_26 : decode cX3_fog 26 = .ok (.getfield 10, 3) := by decide +kernel
theorem dX3_fog_29 : decode cX3_fog 29 = .ok (.iload_n 1, 1) := by decide +kernel
theorem dX3_fog_30 : decode cX3_fog 30 = .ok (.putfield 50, 3) := by decide +kernel
theorem dX3_fog_33 : decode cX3_fog 33 = .ok (.iload_n 2, 1) := by decide +kernel
theorem dX3_fog_34 : decode cX3_fog 34 = .ok (.ireturn, 1) := by decide +kernel
theorem dX3_village_0 : decode cX3_village 0 = .ok (.iload_n 1, 1) := by decide +kernel
theorem dX3_village_1 : decode cX3_village 1 = .ok (.invokestatic 54, 3) := by decide +kernel
theorem dX3_village_4 : decode cX3_village 4 = .ok (.ifCond .ne 10, 3) := by decide +kernel
theorem dX3_village_7 : decode cX3_village 7 = .ok (.aload_n 0, 1) := by decide +kernel
theorem dX3_village_8 : decode cX3_village 8 = .ok (.ldc 45, 2) := by decide +kernel
theorem dX3_village_10 : decode cX3_village 10 = .ok (.invokevirtual 46, 3) := by decide +kernel
theorem dX3_village_13 : decode cX3_village 13 = .ok (.ireturn, 1) := by decide +kernel
theorem dX3_village_14 : decode cX3_village 14 = .ok (.aload_n 0, 1) := by decide +kernel
theorem dX3_village_15 : decode cX3_village 15 = .ok (.getfield 10, 3) := by decide +kernel
theorem dX3_village_18 : decode cX3_village 18 = .ok (.getfield 58, 3) := by decide +kernel
theorem dX3_village_21 : decode cX3_village 21 = .ok (.istore_n 2, 1) := by decide +kernel
theorem dX3_village_22 : decode cX3_village 22 = .ok (.aload_n 0, 1) := by decide +kernel
theorem dX3_village_23 : decode cX3_village 23 = .ok (.getfield 10, 3) := by decide +kernel
theorem dX3_village_26 : decode cX3_village 26 = .ok (.iload_n 1, 1) := by decide +kernel
theorem dX3_village_27 : decode cX3_village 27 = .ok (.putfield 58, 3) := by decide +kernel
theorem dX3_village_30 : decode cX3_village 30 = .ok (.iload_n 2, 1) := by decide +kernel
theorem dX3_village_31 : decode cX3_village 31 = .ok (.ireturn, 1) := by decide +kernel
theorem dX3_at_0 : decode cX3_at 0 = .ok (.iload_n 1, 1) := by decide +kernel
theorem dX3_at_1 : decode cX3_at 1 = .ok (.invokestatic 54, 3) := by decide +kernel
theorem dX3_at_4 : decode cX3_at 4 = .ok (.ifCond .ne 10, 3) := by decide +kernel
theorem dX3_at_7 : decode cX3_at 7 = .ok (.aload_n 0, 1) := by decide +kernel
theorem dX3_at_8 : decode cX3_at 8 = .ok (.ldc 45, 2) := by decide +kernel
theorem dX3_at_10 : decode cX3_at 10 = .ok (.invokevirtual 46, 3) := by decide +kernel
theorem dX3_at_13 : decode cX3_at 13 = .ok (.ireturn, 1) := by decide +kernel
theorem dX3_at_14 : decode cX3_at 14 = .ok (.aload_n 0, 1) := by decide +kernel
theorem dX3_at_15 : decode cX3_at 15 = .ok (.getfield 10, 3) := by decide +kernel
theorem dX3_at_18 : decode cX3_at 18 = .ok (.iload_n 1, 1) := by decide +kernel
theorem dX3_at_19 : decode cX3_at 19 = .ok (.invokevirtual 61, 3) := by decide +kernel
theorem dX3_at_22 : decode cX3_at 22 = .ok (.ireturn, 1) := by decide +kernel
theorem dX3_walker_0 : decode cX3_walker 0 = .ok (.iload_n 1, 1) := by decide +kernel
theorem dX3_walker_1 : decode cX3_walker 1 = .ok (.invokestatic 64, 3) := by decide +kernel
theorem dX3_walker_4 : decode cX3_walker 4 = .ok (.ifCond .eq 10, 3) := by decide +kernel
theorem dX3_walker_7 : decode cX3_walker 7 = .ok (.iload_n 2, 1) := by decide +kernel
theorem dX3_walker_8 : decode cX3_walker 8 = .ok (.invokestatic 54, 3) := by decide +kernel
theorem dX3_walker_11 : decode cX3_walker 11 = .ok (.ifCond .ne 10, 3) := by decide +kernel
theorem dX3_walker_14 : decode cX3_walker 14 = .ok (.aload_n 0, 1) := by decide +kernel
theorem dX3_walker_15 : decode cX3_walker 15 = .ok (.ldc 45, 2) := by decide +kernel
theorem dX3_walker_17 : decode cX3_walker 17 = .ok (.invokevirtual 46, 3) := by decide +kernel
theorem dX3_walker_20 : decode cX3_walker 20 = .ok (.ireturn, 1) := by decide +kernel
theorem dX3_walker_21 : decode cX3_walker 21 = .ok (.aload_n 0, 1) := by decide +kernel
theorem dX3_walker_22 : decode cX3_walker 22 = .ok (.getfield 10, 3) := by decide +kernel
theorem dX3_walker_25 : decode cX3_walker 25 = .ok (.invokevirtual 67, 3) := by decide +kernel
theorem dX3_walker_28 : decode cX3_walker 28 = .ok (.ifCond .ne 10, 3) := by decide +kernel
theorem dX3_walker_31 : decode cX3_walker 31 = .ok (.aload_n 0, 1) := by decide +kernel
theorem dX3_walker_32 : decode cX3_walker 32 = .ok (.ldc 71, 2) := by decide +kernel
theorem dX3_walker_34 : decode cX3_walker 34 = .ok (.invokevirtual 46, 3) := by decide +kernel
theorem dX3_walker_37 : decode cX3_walker 37 = .ok (.ireturn, 1) := by decide +kernel
theorem dX3_walker_38 : decode cX3_walker 38 = .ok (.aload_n 0, 1) := by decide +kernel
theorem dX3_walker_39 : decode cX3_walker 39 = .ok (.getfield 10, 3) := by decide +kernel
theorem dX3_walker_42 : decode cX3_walker 42 = .ok (.iload_n 1, 1) := by decide +kernel
theorem dX3_walker_43 : decode cX3_walker 43 = .ok (.iload_n 2, 1) := by decide +kernel
theorem dX3_walker_44 : decode cX3_walker 44 = .ok (.invokevirtual 72, 3) := by decide +kernel
theorem dX3_walker_47 : decode cX3_walker 47 = .ok (.ireturn, 1) := by decide +kernel
theorem dX3_of_0 : decode cX3_of 0 = .ok (.aload_n 0, 1) := by decide +kernel
theorem dX3_of_1 : decode cX3_of 1 = .ok (.getfield 10, 3) := by decide +kernel
theorem dX3_of_4 : decode cX3_of 4 = .ok (.iload_n 1, 1) := by decide +kernel
theorem dX3_of_5 : decode cX3_of 5 = .ok (.invokevirtual 76, 3) := by decide +kernel
theorem dX3_of_8 : decode cX3_of 8 = .ok (.ifCond .eq 13, 3) := by decide +kernel
theorem dX3_of_11 : decode cX3_of 11 = .ok (.iload_n 2, 1) := by decide +kernel
theorem dX3_of_12 : decode cX3_of 12 = .ok (.ifCond .lt 9, 3) := by decide +kernel
theorem dX3_of_15 : decode cX3_of 15 = .ok (.iload_n 2, 1) := by decide +kernel
theorem dX3_of_16 : decode cX3_of 16 = .ok (.bipush 8, 2) := by decide +kernel
theorem dX3_of_18 : decode cX3_of 18 = .ok (.if_icmp .le 10, 3) := by decide +kernel
theorem dX3_of_21 : decode cX3_of 21 = .ok (.aload_n 0, 1) := by decide +kernel
theorem dX3_of_22 : decode cX3_of 22 = .ok (.ldc 45, 2) := by decide +kernel
theorem dX3_of_24 : decode cX3_of 24 = .ok (.invokevirtual 46, 3) := by decide +kernel
theorem dX3_of_27 : decode cX3_of 27 = .ok (.ireturn, 1) := by decide +kernel
theorem dX3_of_28 : decode cX3_of 28 = .ok (.aload_n 0, 1) := by decide +kernel
theorem dX3_of_29 : decode cX3_of 29 = .ok (.getfield 10, 3) := by decide +kernel
theorem dX3_of_32 : decode cX3_of 32 = .ok (.iload_n 1, 1) := by decide +kernel
theorem dX3_of_33 : decode cX3_of 33 = .ok (.iload_n 2, 1) := by decide +kernel
theorem dX3_of_34 : decode cX3_of 34 = .ok (.invokevirtual 79, 3) := by decide +kernel
theorem dX3_of_37 : decode cX3_of 37 = .ok (.ireturn, 1) := by decide +kernel
theorem dX3_set_0 : decode cX3_set 0 = .ok (.aload_n 0, 1) := by decide +kernel
theorem dX3_set_1 : decode cX3_set 1 = .ok (.getfield 10, 3) := by decide +kernel
theorem dX3_set_4 : decode cX3_set 4 = .ok (.iload_n 1, 1) := by decide +kernel
theorem dX3_set_5 : decode cX3_set 5 = .ok (.invokevirtual 76, 3) := by decide +kernel
theorem dX3_set_8 : decode cX3_set 8 = .ok (.ifCond .eq 25, 3) := by decide +kernel
theorem dX3_set_11 : decode cX3_set 11 = .ok (.iload_n 2, 1) := by decide +kernel
theorem dX3_set_12 : decode cX3_set 12 = .ok (.iconst 1, 1) := by decide +kernel
theorem dX3_set_13 : decode cX3_set 13 = .ok (.if_icmp .lt 20, 3) := by decide +kernel
theorem dX3_set_16 : decode cX3_set 16 = .ok (.iload_n 2, 1) := by decide +kernel
theorem dX3_set_17 : decode cX3_set 17 = .ok (.iconst 4, 1) := by decide +kernel
theorem dX3_set_18 : decode cX3_set 18 = .ok (.if_icmp .gt 15, 3) := by decide +kernel
theorem dX3_set_21 : decode cX3_set 21 = .ok (.iload_n 3, 1) := by decide +kernel
theorem dX3_set_22 : decode cX3_set 22 = .ok (.ifCond .lt 11, 3) := by decide +kernel
theorem dX3_set_25 : decode cX3_set 25 = .ok (.iload_n 3, 1) := by decide +kernel
theorem dX3_set_26 : decode cX3_set 26 = .ok (.iload_n 2, 1) := by decide +kernel
theorem dX3_set_27 : decode cX3_set 27 = .ok (.invokestatic 82, 3) := by decide +kernel
theorem dX3_set_30 : decode cX3_set 30 = .ok (.if_icmp .lt 10, 3) := by decide +kernel
theorem dX3_set_33 : decode cX3_set 33 = .ok (.aload_n 0, 1) := by decide +kernel
theorem dX3_set_34 : decode cX3_set 34 = .ok (.ldc 45, 2) := by decide +kernel
theorem dX3_set_36 : decode cX3_set 36 = .ok (.invokevirtual 46, 3) := by decide +kernel
theorem dX3_set_39 : decode cX3_set 39 = .ok (.ireturn, 1) := by decide +kernel
theorem dX3_set_40 : decode cX3_set 40 = .ok (.aload_n 0, 1) := by decide +kernel
theorem dX3_set_41 : decode cX3_set 41 = .ok (.getfield 10, 3) := by decide +kernel
theorem dX3_set_44 : decode cX3_set 44 = .ok (.iload_n 1, 1) := by decide +kernel
theorem dX3_set_45 : decode cX3_set 45 = .ok (.iload_n 2, 1) := by decide +kernel
theorem dX3_set_46 : decode cX3_set 46 = .ok (.invokevirtual 79, 3) := by decide +kernel
theorem dX3_set_49 : decode cX3_set 49 = .ok (.istore 4, 2) := by decide +kernel
theorem dX3_set_51 : decode cX3_set 51 = .ok (.iload_n 2, 1) := by decide +kernel
theorem dX3_set_52 : decode cX3_set 52 = .ok (.tableswitch 66 1 3 #[28, 40, 53], 28) := by decide +kernel
theorem dX3_set_80 : decode cX3_set 80 = .ok (.aload_n 0, 1) := by decide +kernel
theorem dX3_set_81 : decode cX3_set 81 = .ok (.getfield 10, 3) := by decide +kernel
theorem dX3_set_84 : decode cX3_set 84 = .ok (.iload_n 1, 1) := by decide +kernel
theorem dX3_set_85 : decode cX3_set 85 = .ok (.iload_n 3, 1) := by decide +kernel
theorem dX3_set_86 : decode cX3_set 86 = .ok (.invokevirtual 85, 3) := by decide +kernel
theorem dX3_set_89 : decode cX3_set 89 = .ok (.goto 39, 3) := by decide +kernel
theorem dX3_set_92 : decode cX3_set 92 = .ok (.aload_n 0, 1) := by decide +kernel
theorem dX3_set_93 : decode cX3_set 93 = .ok (.getfield 10, 3) := by decide +kernel
theorem dX3_set_96 : decode cX3_set 96 = .ok (.getfield 89, 3) := by decide +kernel
theorem dX3_set_99 : decode cX3_set 99 = .ok (.iload_n 1, 1) := by decide +kernel
theorem dX3_set_100 : decode cX3_set 100 = .ok (.iload_n 3, 1) := by decide +kernel
theorem dX3_set_101 : decode cX3_set 101 = .ok (.iastore, 1) := by decide +kernel
theorem dX3_set_102 : decode cX3_set 102 = .ok (.goto 26, 3) := by decide +kernel
theorem dX3_set_105 : decode cX3_set 105 = .ok (.aload_n 0, 1) := by decide +kernel
theorem dX3_set_106 : decode cX3_set 106 = .ok (.getfield 10, 3) := by decide +kernel
theorem dX3_set_109 : decode cX3_set 109 = .ok (.getfield 92, 3) := by decide +kernel
theorem dX3_set_112 : decode cX3_set 112 = .ok (.iload_n 1, 1) := by decide +kernel
theorem dX3_set_113 : decode cX3_set 113 = .ok (.iload_n 3, 1) := by decide +kernel
theorem dX3_set_114 : decode cX3_set 114 = .ok (.iastore, 1) := by decide +kernel
theorem dX3_set_115 : decode cX3_set 115 = .ok (.goto 13, 3) := by decide +kernel
theorem dX3_set_118 : decode cX3_set 118 = .ok (.aload_n 0, 1) := by decide +kernel
theorem dX3_set_119 : decode cX3_set 119 = .ok (.getfield 10, 3) := by decide +kernel
theorem dX3_set_122 : decode cX3_set 122 = .ok (.getfield 95, 3) := by decide +kernel
theorem dX3_set_125 : decode cX3_set 125 = .ok (.iload_n 1, 1) := by decide +kernel
theorem dX3_set_126 : decode cX3_set 126 = .ok (.iload_n 3, 1) := by decide +kernel
theorem dX3_set_127 : decode cX3_set 127 = .ok (.iastore, 1) := by decide +kernel
theorem dX3_set_128 : decode cX3_set 128 = .ok (.iload 4, 2) := by decide +kernel
theorem dX3_set_130 : decode cX3_set 130 = .ok (.ireturn, 1) := by decide +kernel
theorem dX3_turn_0 : decode cX3_turn 0 = .ok (.aload_n 0, 1) := by decide +kernel
theorem dX3_turn_1 : decode cX3_turn 1 = .ok (.getfield 10, 3) := by decide +kernel
theorem dX3_turn_4 : decode cX3_turn 4 = .ok (.iload_n 1, 1) := by decide +kernel
theorem dX3_turn_5 : decode cX3_turn 5 = .ok (.invokevirtual 76, 3) := by decide +kernel
theorem dX3_turn_8 : decode cX3_turn 8 = .ok (.ifCond .eq 10, 3) := by decide +kernel
theorem dX3_turn_11 : decode cX3_turn 11 = .ok (.iload_n 2, 1) := by decide +kernel
theorem dX3_turn_12 : decode cX3_turn 12 = .ok (.invokestatic 64, 3) := by decide +kernel
theorem dX3_turn_15 : decode cX3_turn 15 = .ok (.ifCond .ne 10, 3) := by decide +kernel
theorem dX3_turn_18 : decode cX3_turn 18 = .ok (.aload_n 0, 1) := by decide +kernel
theorem dX3_turn_19 : decode cX3_turn 19 = .ok (.ldc 45, 2) := by decide +kernel
theorem dX3_turn_21 : decode cX3_turn 21 = .ok (.invokevirtual 46, 3) := by decide +kernel
theorem dX3_turn_24 : decode cX3_turn 24 = .ok (.ireturn, 1) := by decide +kernel
theorem dX3_turn_25 : decode cX3_turn 25 = .ok (.aload_n 0, 1) := by decide +kernel
theorem dX3_turn_26 : decode cX3_turn 26 = .ok (.getfield 10, 3) := by decide +kernel
theorem dX3_turn_29 : decode cX3_turn 29 = .ok (.getfield 98, 3) := by decide +kernel
theorem dX3_turn_32 : decode cX3_turn 32 = .ok (.iload_n 1, 1) := by decide +kernel
theorem dX3_turn_33 : decode cX3_turn 33 = .ok (.iaload, 1) := by decide +kernel
theorem dX3_turn_34 : decode cX3_turn 34 = .ok (.istore_n 3, 1) := by decide +kernel
theorem dX3_turn_35 : decode cX3_turn 35 = .ok (.aload_n 0, 1) := by decide +kernel
theorem dX3_turn_36 : decode cX3_turn 36 = .ok (.getfield 10, 3) := by decide +kernel
theorem dX3_turn_39 : decode cX3_turn 39 = .ok (.getfield 98, 3) := by decide +kernel
theorem dX3_turn_42 : decode cX3_turn 42 = .ok (.iload_n 1, 1) := by decide +kernel
theorem dX3_turn_43 : decode cX3_turn 43 = .ok (.iload_n 2, 1) := by decide +kernel
theorem dX3_turn_44 : decode cX3_turn 44 = .ok (.iastore, 1) := by decide +kernel
theorem dX3_turn_45 : decode cX3_turn 45 = .ok (.iload_n 3, 1) := by decide +kernel
theorem dX3_turn_46 : decode cX3_turn 46 = .ok (.ireturn, 1) := by decide +kernel
theorem dX3_as_0 : decode cX3_as 0 = .ok (.aload_n 0, 1) := by decide +kernel
theorem dX3_as_1 : decode cX3_as 1 = .ok (.getfield 10, 3) := by decide +kernel
theorem dX3_as_4 : decode cX3_as 4 = .ok (.iload_n 1, 1) := by decide +kernel
theorem dX3_as_5 : decode cX3_as 5 = .ok (.invokevirtual 76, 3) := by decide +kernel
theorem dX3_as_8 : decode cX3_as 8 = .ok (.ifCond .eq 10, 3) := by decide +kernel
theorem dX3_as_11 : decode cX3_as 11 = .ok (.iload_n 2, 1) := by decide +kernel
theorem dX3_as_12 : decode cX3_as 12 = .ok (.invokestatic 64, 3) := by decide +kernel
theorem dX3_as_15 : decode cX3_as 15 = .ok (.ifCond .ne 10, 3) := by decide +kernel
theorem dX3_as_18 : decode cX3_as 18 = .ok (.aload_n 0, 1) := by decide +kernel
theorem dX3_as_19 : decode cX3_as 19 = .ok (.ldc 45, 2) := by decide +kernel
theorem dX3_as_21 : decode cX3_as 21 = .ok (.invokevirtual 46, 3) := by decide +kernel
theorem dX3_as_24 : decode cX3_as 24 = .ok (.ireturn, 1) := by decide +kernel
theorem dX3_as_25 : decode cX3_as 25 = .ok (.aload_n 0, 1) := by decide +kernel
theorem dX3_as_26 : decode cX3_as 26 = .ok (.getfield 10, 3) := by decide +kernel
theorem dX3_as_29 : decode cX3_as 29 = .ok (.getfield 98, 3) := by decide +kernel
theorem dX3_as_32 : decode cX3_as 32 = .ok (.iload_n 1, 1) := by decide +kernel
theorem dX3_as_33 : decode cX3_as 33 = .ok (.iaload, 1) := by decide +kernel
theorem dX3_as_34 : decode cX3_as 34 = .ok (.iload_n 2, 1) := by decide +kernel
theorem dX3_as_35 : decode cX3_as 35 = .ok (.invokestatic 101, 3) := by decide +kernel
theorem dX3_as_38 : decode cX3_as 38 = .ok (.ifCond .ne 10, 3) := by decide +kernel
theorem dX3_as_41 : decode cX3_as 41 = .ok (.aload_n 0, 1) := by decide +kernel
theorem dX3_as_42 : decode cX3_as 42 = .ok (.ldc 105, 2) := by decide +kernel
theorem dX3_as_44 : decode cX3_as 44 = .ok (.invokevirtual 46, 3) := by decide +kernel
theorem dX3_as_47 : decode cX3_as 47 = .ok (.ireturn, 1) := by decide +kernel
theorem dX3_as_48 : decode cX3_as 48 = .ok (.aload_n 0, 1) := by decide +kernel
theorem dX3_as_49 : decode cX3_as 49 = .ok (.getfield 10, 3) := by decide +kernel
theorem dX3_as_52 : decode cX3_as 52 = .ok (.getfield 95, 3) := by decide +kernel
theorem dX3_as_55 : decode cX3_as 55 = .ok (.iload_n 1, 1) := by decide +kernel
theorem dX3_as_56 : decode cX3_as 56 = .ok (.iaload, 1) := by decide +kernel
theorem dX3_as_57 : decode cX3_as 57 = .ok (.ireturn, 1) := by decide +kernel
theorem dX3_free_0 : decode cX3_free 0 = .ok (.aload_n 0, 1) := by decide +kernel
theorem dX3_free_1 : decode cX3_free 1 = .ok (.getfield 10, 3) := by decide +kernel
theorem dX3_free_4 : decode cX3_free 4 = .ok (.iload_n 1, 1) := by decide +kernel
theorem dX3_free_5 : decode cX3_free 5 = .ok (.invokevirtual 76, 3) := by decide +kernel
theorem dX3_free_8 : decode cX3_free 8 = .ok (.ifCond .ne 10, 3) := by decide +kernel
theorem dX3_free_11 : decode cX3_free 11 = .ok (.aload_n 0, 1) := by decide +kernel
theorem dX3_free_12 : decode cX3_free 12 = .ok (.ldc 45, 2) := by decide +kernel
theorem dX3_free_14 : decode cX3_free 14 = .ok (.invokevirtual 46, 3) := by decide +kernel
theorem dX3_free_17 : decode cX3_free 17 = .ok (.ireturn, 1) := by decide +kernel
theorem dX3_free_18 : decode cX3_free 18 = .ok (.aload_n 0, 1) := by decide +kernel
theorem dX3_free_19 : decode cX3_free 19 = .ok (.getfield 10, 3) := by decide +kernel
theorem dX3_free_22 : decode cX3_free 22 = .ok (.iload_n 1, 1) := by decide +kernel
theorem dX3_free_23 : decode cX3_free 23 = .ok (.invokevirtual 106, 3) := by decide +kernel
theorem dX3_free_26 : decode cX3_free 26 = .ok (.ifCond .eq 10, 3) := by decide +kernel
theorem dX3_free_29 : decode cX3_free 29 = .ok (.aload_n 0, 1) := by decide +kernel
theorem dX3_free_30 : decode cX3_free 30 = .ok (.ldc 109, 2) := by decide +kernel
theorem dX3_free_32 : decode cX3_free 32 = .ok (.invokevirtual 46, 3) := by decide +kernel
theorem dX3_free_35 : decode cX3_free 35 = .ok (.ireturn, 1) := by decide +kernel
theorem dX3_free_36 : decode cX3_free 36 = .ok (.aload_n 0, 1) := by decide +kernel
theorem dX3_free_37 : decode cX3_free 37 = .ok (.getfield 10, 3) := by decide +kernel
theorem dX3_free_40 : decode cX3_free 40 = .ok (.getfield 110, 3) := by decide +kernel
theorem dX3_free_43 : decode cX3_free 43 = .ok (.iload_n 1, 1) := by decide +kernel
theorem dX3_free_44 : decode cX3_free 44 = .ok (.iaload, 1) := by decide +kernel
theorem dX3_free_45 : decode cX3_free 45 = .ok (.istore_n 2, 1) := by decide +kernel
theorem dX3_free_46 : decode cX3_free 46 = .ok (.aload_n 0, 1) := by decide +kernel
theorem dX3_free_47 : decode cX3_free 47 = .ok (.getfield 10, 3) := by decide +kernel
theorem dX3_free_50 : decode cX3_free 50 = .ok (.iload_n 1, 1) := by decide +kernel
theorem dX3_free_51 : decode cX3_free 51 = .ok (.invokevirtual 113, 3) := by decide +kernel
theorem dX3_free_54 : decode cX3_free 54 = .ok (.iload_n 2, 1) := by decide +kernel
theorem dX3_free_55 : decode cX3_free 55 = .ok (.ireturn, 1) := by decide +kernel
theorem dX3_keep_0 : decode cX3_keep 0 = .ok (.aload_n 0, 1) := by decide +kernel
theorem dX3_keep_1 : decode cX3_keep 1 = .ok (.iload_n 1, 1) := by decide +kernel
theorem dX3_keep_2 : decode cX3_keep 2 = .ok (.iload_n 2, 1) := by decide +kernel
theorem dX3_keep_3 : decode cX3_keep 3 = .ok (.invokevirtual 117, 3) := by decide +kernel
theorem dX3_keep_6 : decode cX3_keep 6 = .ok (.ifCond .ne 10, 3) := by decide +kernel
theorem dX3_keep_9 : decode cX3_keep 9 = .ok (.aload_n 0, 1) := by decide +kernel
theorem dX3_keep_10 : decode cX3_keep 10 = .ok (.ldc 45, 2) := by decide +kernel
theorem dX3_keep_12 : decode cX3_keep 12 = .ok (.invokevirtual 46, 3) := by decide +kernel
theorem dX3_keep_15 : decode cX3_keep 15 = .ok (.ireturn, 1) := by decide +kernel
theorem dX3_keep_16 : decode cX3_keep 16 = .ok (.aload_n 0, 1) := by decide +kernel
theorem dX3_keep_17 : decode cX3_keep 17 = .ok (.getfield 10, 3) := by decide +kernel
theorem dX3_keep_20 : decode cX3_keep 20 = .ok (.iload_n 1, 1) := by decide +kernel
theorem dX3_keep_21 : decode cX3_keep 21 = .ok (.invokevirtual 106, 3) := by decide +kernel
theorem dX3_keep_24 : decode cX3_keep 24 = .ok (.ifCond .eq 35, 3) := by decide +kernel
theorem dX3_keep_27 : decode cX3_keep 27 = .ok (.aload_n 0, 1) := by decide +kernel
theorem dX3_keep_28 : decode cX3_keep 28 = .ok (.getfield 10, 3) := by decide +kernel
theorem dX3_keep_31 : decode cX3_keep 31 = .ok (.iload_n 2, 1) := by decide +kernel
theorem dX3_keep_32 : decode cX3_keep 32 = .ok (.invokevirtual 106, 3) := by decide +kernel
theorem dX3_keep_35 : decode cX3_keep 35 = .ok (.ifCond .eq 24, 3) := by decide +kernel
theorem dX3_keep_38 : decode cX3_keep 38 = .ok (.aload_n 0, 1) := by decide +kernel
theorem dX3_keep_39 : decode cX3_keep 39 = .ok (.getfield 10, 3) := by decide +kernel
theorem dX3_keep_42 : decode cX3_keep 42 = .ok (.getfield 120, 3) := by decide +kernel
theorem dX3_keep_45 : decode cX3_keep 45 = .ok (.iload_n 1, 1) := by decide +kernel
theorem dX3_keep_46 : decode cX3_keep 46 = .ok (.iaload, 1) := by decide +kernel
theorem dX3_keep_47 : decode cX3_keep 47 = .ok (.aload_n 0, 1) := by decide +kernel
theorem dX3_keep_48 : decode cX3_keep 48 = .ok (.getfield 10, 3) := by decide +kernel
theorem dX3_keep_51 : decode cX3_keep 51 = .ok (.getfield 120, 3) := by decide +kernel
theorem dX3_keep_54 : decode cX3_keep 54 = .ok (.iload_n 2, 1) := by decide +kernel
theorem dX3_keep_55 : decode cX3_keep 55 = .ok (.iaload, 1) := by decide +kernel
theorem dX3_keep_56 : decode cX3_keep 56 = .ok (.if_icmp .eq 10, 3) := by decide +kernel
theorem dX3_keep_59 : decode cX3_keep 59 = .ok (.aload_n 0, 1) := by decide +kernel
theorem dX3_keep_60 : decode cX3_keep 60 = .ok (.ldc 109, 2) := by decide +kernel
theorem dX3_keep_62 : decode cX3_keep 62 = .ok (.invokevirtual 46, 3) := by decide +kernel
theorem dX3_keep_65 : decode cX3_keep 65 = .ok (.ireturn, 1) := by decide +kernel
theorem dX3_keep_66 : decode cX3_keep 66 = .ok (.aload_n 0, 1) := by decide +kernel
theorem dX3_keep_67 : decode cX3_keep 67 = .ok (.getfield 10, 3) := by decide +kernel
theorem dX3_keep_70 : decode cX3_keep 70 = .ok (.iload_n 1, 1) := by decide +kernel
theorem dX3_keep_71 : decode cX3_keep 71 = .ok (.iload_n 2, 1) := by decide +kernel
theorem dX3_keep_72 : decode cX3_keep 72 = .ok (.invokevirtual 123, 3) := by decide +kernel
theorem dX3_keep_75 : decode cX3_keep 75 = .ok (.aload_n 0, 1) := by decide +kernel
theorem dX3_keep_76 : decode cX3_keep 76 = .ok (.getfield 10, 3) := by decide +kernel
theorem dX3_keep_79 : decode cX3_keep 79 = .ok (.invokevirtual 126, 3) := by decide +kernel
theorem dX3_keep_82 : decode cX3_keep 82 = .ok (.invokestatic 130, 3) := by decide +kernel
theorem dX3_keep_85 : decode cX3_keep 85 = .ok (.ireturn, 1) := by decide +kernel
theorem dX3_hours_0 : decode cX3_hours 0 = .ok (.iload_n 1, 1) := by decide +kernel
theorem dX3_hours_1 : decode cX3_hours 1 = .ok (.iconst 1, 1) := by decide +kernel
theorem dX3_hours_2 : decode cX3_hours 2 = .ok (.if_icmp .lt 9, 3) := by decide +kernel
theorem dX3_hours_5 : decode cX3_hours 5 = .ok (.iload_n 1, 1) := by decide +kernel
theorem dX3_hours_6 : decode cX3_hours 6 = .ok (.bipush 60, 2) := by decide +kernel
theorem dX3_hours_8 : decode cX3_hours 8 = .ok (.if_icmp .le 10, 3) := by decide +kernel
theorem dX3_hours_11 : decode cX3_hours 11 = .ok (.aload_n 0, 1) := by decide +kernel
theorem dX3_hours_12 : decode cX3_hours 12 = .ok (.ldc 45, 2) := by decide +kernel
theorem dX3_hours_14 : decode cX3_hours 14 = .ok (.invokevirtual 46, 3) := by decide +kernel
theorem dX3_hours_17 : decode cX3_hours 17 = .ok (.ireturn, 1) := by decide +kernel
theorem dX3_hours_18 : decode cX3_hours 18 = .ok (.aload_n 0, 1) := by decide +kernel
theorem dX3_hours_19 : decode cX3_hours 19 = .ok (.getfield 10, 3) := by decide +kernel
theorem dX3_hours_22 : decode cX3_hours 22 = .ok (.getfield 135, 3) := by decide +kernel
theorem dX3_hours_25 : decode cX3_hours 25 = .ok (.ldc 138, 2) := by decide +kernel
theorem dX3_hours_27 : decode cX3_hours 27 = .ok (.iload_n 1, 1) := by decide +kernel
theorem dX3_hours_28 : decode cX3_hours 28 = .ok (.isub, 1) := by decide +kernel
theorem dX3_hours_29 : decode cX3_hours 29 = .ok (.if_icmp .le 10, 3) := by decide +kernel
theorem dX3_hours_32 : decode cX3_hours 32 = .ok (.aload_n 0, 1) := by decide +kernel
theorem dX3_hours_33 : decode cX3_hours 33 = .ok (.ldc 109, 2) := by decide +kernel
theorem dX3_hours_35 : decode cX3_hours 35 = .ok (.invokevirtual 46, 3) := by decide +kernel
theorem dX3_hours_38 : decode cX3_hours 38 = .ok (.ireturn, 1) := by decide +kernel
theorem dX3_hours_39 : decode cX3_hours 39 = .ok (.aload_n 0, 1) := by decide +kernel
theorem dX3_hours_40 : decode cX3_hours 40 = .ok (.getfield 10, 3) := by decide +kernel
theorem dX3_hours_43 : decode cX3_hours 43 = .ok (.iload_n 1, 1) := by decide +kernel
theorem dX3_hours_44 : decode cX3_hours 44 = .ok (.invokevirtual 139, 3) := by decide +kernel
theorem dX3_hours_47 : decode cX3_hours 47 = .ok (.aload_n 0, 1) := by decide +kernel
theorem dX3_hours_48 : decode cX3_hours 48 = .ok (.getfield 10, 3) := by decide +kernel
theorem dX3_hours_51 : decode cX3_hours 51 = .ok (.invokevirtual 126, 3) := by decide +kernel
theorem dX3_hours_54 : decode cX3_hours 54 = .ok (.ireturn, 1) := by decide +kernel
theorem dX3_now_0 : decode cX3_now 0 = .ok (.iload_n 1, 1) := by decide +kernel
theorem dX3_now_1 : decode cX3_now 1 = .ok (.tableswitch 95 0 5 #[39, 47, 55, 71, 79, 87], 39) := by decide +kernel
theorem dX3_now_40 : decode cX3_now 40 = .ok (.aload_n 0, 1) := by decide +kernel
theorem dX3_now_41 : decode cX3_now 41 = .ok (.getfield 10, 3) := by decide +kernel
theorem dX3_now_44 : decode cX3_now 44 = .ok (.getfield 135, 3) := by decide +kernel
theorem dX3_now_47 : decode cX3_now 47 = .ok (.ireturn, 1) := by decide +kernel
theorem dX3_now_48 : decode cX3_now 48 = .ok (.aload_n 0, 1) := by decide +kernel
theorem dX3_now_49 : decode cX3_now 49 = .ok (.getfield 10, 3) := by decide +kernel
theorem dX3_now_52 : decode cX3_now 52 = .ok (.getfield 50, 3) := by decide +kernel
theorem dX3_now_55 : decode cX3_now 55 = .ok (.ireturn, 1) := by decide +kernel
theorem dX3_now_56 : decode cX3_now 56 = .ok (.aload_n 0, 1) := by decide +kernel
theorem dX3_now_57 : decode cX3_now 57 = .ok (.getfield 10, 3) := by decide +kernel
theorem dX3_now_60 : decode cX3_now 60 = .ok (.invokevirtual 142, 3) := by decide +kernel
theorem dX3_now_63 : decode cX3_now 63 = .ok (.ifCond .eq 7, 3) := by decide +kernel
theorem dX3_now_66 : decode cX3_now 66 = .ok (.iconst 1, 1) := by decide +kernel
theorem dX3_now_67 : decode cX3_now 67 = .ok (.goto 4, 3) := by decide +kernel
theorem dX3_now_70 : decode cX3_now 70 = .ok (.iconst 0, 1) := by decide +kernel
theorem dX3_now_71 : decode cX3_now 71 = .ok (.ireturn, 1) := by decide +kernel
theorem dX3_now_72 : decode cX3_now 72 = .ok (.aload_n 0, 1) := by decide +kernel
theorem dX3_now_73 : decode cX3_now 73 = .ok (.getfield 10, 3) := by decide +kernel
theorem dX3_now_76 : decode cX3_now 76 = .ok (.invokevirtual 126, 3) := by decide +kernel
theorem dX3_now_79 : decode cX3_now 79 = .ok (.ireturn, 1) := by decide +kernel
theorem dX3_now_80 : decode cX3_now 80 = .ok (.aload_n 0, 1) := by decide +kernel
theorem dX3_now_81 : decode cX3_now 81 = .ok (.getfield 10, 3) := by decide +kernel
theorem dX3_now_84 : decode cX3_now 84 = .ok (.invokevirtual 145, 3) := by decide +kernel
theorem dX3_now_87 : decode cX3_now 87 = .ok (.ireturn, 1) := by decide +kernel
theorem dX3_now_88 : decode cX3_now 88 = .ok (.aload_n 0, 1) := by decide +kernel
theorem dX3_now_89 : decode cX3_now 89 = .ok (.getfield 10, 3) := by decide +kernel
theorem dX3_now_92 : decode cX3_now 92 = .ok (.getfield 58, 3) := by decide +kernel
theorem dX3_now_95 : decode cX3_now 95 = .ok (.ireturn, 1) := by decide +kernel
theorem dX3_now_96 : decode cX3_now 96 = .ok (.aload_n 0, 1) := by decide +kernel
theorem dX3_now_97 : decode cX3_now 97 = .ok (.ldc 45, 2) := by decide +kernel
theorem dX3_now_99 : decode cX3_now 99 = .ok (.invokevirtual 46, 3) := by decide +kernel
theorem dX3_now_102 : decode cX3_now 102 = .ok (.ireturn, 1) := by decide +kernel
theorem dX3_on_0 : decode cX3_on 0 = .ok (.aload_n 0, 1) := by decide +kernel
theorem dX3_on_1 : decode cX3_on 1 = .ok (.getfield 10, 3) := by decide +kernel
theorem dX3_on_4 : decode cX3_on 4 = .ok (.iload_n 1, 1) := by decide +kernel
theorem dX3_on_5 : decode cX3_on 5 = .ok (.invokevirtual 76, 3) := by decide +kernel
theorem dX3_on_8 : decode cX3_on 8 = .ok (.ifCond .eq 22, 3) := by decide +kernel
theorem dX3_on_11 : decode cX3_on 11 = .ok (.iload_n 2, 1) := by decide +kernel
theorem dX3_on_12 : decode cX3_on 12 = .ok (.ifCond .lt 18, 3) := by decide +kernel
theorem dX3_on_15 : decode cX3_on 15 = .ok (.iload_n 2, 1) := by decide +kernel
theorem dX3_on_16 : decode cX3_on 16 = .ok (.bipush 60, 2) := by decide +kernel
theorem dX3_on_18 : decode cX3_on 18 = .ok (.if_icmp .gt 12, 3) := by decide +kernel
theorem dX3_on_21 : decode cX3_on 21 = .ok (.iload_n 3, 1) := by decide +kernel
theorem dX3_on_22 : decode cX3_on 22 = .ok (.ifCond .lt 8, 3) := by decide +kernel
theorem dX3_on_25 : decode cX3_on 25 = .ok (.iload_n 3, 1) := by decide +kernel
theorem dX3_on_26 : decode cX3_on 26 = .ok (.iconst 2, 1) := by decide +kernel
theorem dX3_on_27 : decode cX3_on 27 = .ok (.if_icmp .le 10, 3) := by decide +kernel
theorem dX3_on_30 : decode cX3_on 30 = .ok (.aload_n 0, 1) := by decide +kernel
theorem dX3_on_31 : decode cX3_on 31 = .ok (.ldc 45, 2) := by decide +kernel
theorem dX3_on_33 : decode cX3_on 33 = .ok (.invokevirtual 46, 3) := by decide +kernel
theorem dX3_on_36 : decode cX3_on 36 = .ok (.ireturn, 1) := by decide +kernel
theorem dX3_on_37 : decode cX3_on 37 = .ok (.aload_n 0, 1) := by decide +kernel
theorem dX3_on_38 : decode cX3_on 38 = .ok (.getfield 16, 3) := by decide +kernel
theorem dX3_on_41 : decode cX3_on 41 = .ok (.aload_n 0, 1) := by decide +kernel
theorem dX3_on_42 : decode cX3_on 42 = .ok (.getfield 10, 3) := by decide +kernel
theorem dX3_on_45 : decode cX3_on 45 = .ok (.invokevirtual 148, 3) := by decide +kernel
theorem dX3_on_48 : decode cX3_on 48 = .ok (.aload_n 0, 1) := by decide +kernel
theorem dX3_on_49 : decode cX3_on 49 = .ok (.getfield 16, 3) := by decide +kernel
theorem dX3_on_52 : decode cX3_on 52 = .ok (.iload_n 2, 1) := by decide +kernel
theorem dX3_on_53 : decode cX3_on 53 = .ok (.invokevirtual 139, 3) := by decide +kernel
theorem dX3_on_56 : decode cX3_on 56 = .ok (.iload_n 3, 1) := by decide +kernel
theorem dX3_on_57 : decode cX3_on 57 = .ok (.ifCond .ne 13, 3) := by decide +kernel
theorem dX3_on_60 : decode cX3_on 60 = .ok (.aload_n 0, 1) := by decide +kernel
theorem dX3_on_61 : decode cX3_on 61 = .ok (.getfield 16, 3) := by decide +kernel
theorem dX3_on_64 : decode cX3_on 64 = .ok (.getfield 120, 3) := by decide +kernel
theorem dX3_on_67 : decode cX3_on 67 = .ok (.iload_n 1, 1) := by decide +kernel
theorem dX3_on_68 : decode cX3_on 68 = .ok (.iaload, 1) := by decide +kernel
theorem dX3_on_69 : decode cX3_on 69 = .ok (.ireturn, 1) := by decide +kernel
theorem dX3_on_70 : decode cX3_on 70 = .ok (.iload_n 3, 1) := by decide +kernel
theorem dX3_on_71 : decode cX3_on 71 = .ok (.iconst 1, 1) := by decide +kernel
theorem dX3_on_72 : decode cX3_on 72 = .ok (.if_icmp .ne 15, 3) := by decide +kernel
theorem dX3_on_75 : decode cX3_on 75 = .ok (.aload_n 0, 1) := by decide +kernel
theorem dX3_on_76 : decode cX3_on 76 = .ok (.getfield 16, 3) := by decide +kernel
theorem dX3_on_79 : decode cX3_on 79 = .ok (.getfield 110, 3) := by decide +kernel
theorem dX3_on_82 : decode cX3_on 82 = .ok (.iload_n 1, 1) := by decide +kernel
theorem dX3_on_83 : decode cX3_on 83 = .ok (.iaload, 1) := by decide +kernel
theorem dX3_on_84 : decode cX3_on 84 = .ok (.goto 12, 3) := by decide +kernel
theorem dX3_on_87 : decode cX3_on 87 = .ok (.aload_n 0, 1) := by decide +kernel
theorem dX3_on_88 : decode cX3_on 88 = .ok (.getfield 16, 3) := by decide +kernel
theorem dX3_on_91 : decode cX3_on 91 = .ok (.getfield 152, 3) := by decide +kernel
theorem dX3_on_94 : decode cX3_on 94 = .ok (.iload_n 1, 1) := by decide +kernel
theorem dX3_on_95 : decode cX3_on 95 = .ok (.iaload, 1) := by decide +kernel
theorem dX3_on_96 : decode cX3_on 96 = .ok (.ireturn, 1) := by decide +kernel
theorem dX3_meet_0 : decode cX3_meet 0 = .ok (.aload_n 0, 1) := by decide +kernel
theorem dX3_meet_1 : decode cX3_meet 1 = .ok (.iload_n 1, 1) := by decide +kernel
theorem dX3_meet_2 : decode cX3_meet 2 = .ok (.iload_n 2, 1) := by decide +kernel
theorem dX3_meet_3 : decode cX3_meet 3 = .ok (.invokevirtual 117, 3) := by decide +kernel
theorem dX3_meet_6 : decode cX3_meet 6 = .ok (.ifCond .ne 10, 3) := by decide +kernel
theorem dX3_meet_9 : decode cX3_meet 9 = .ok (.aload_n 0, 1) := by decide +kernel
theorem dX3_meet_10 : decode cX3_meet 10 = .ok (.ldc 45, 2) := by decide +kernel
theorem dX3_meet_12 : decode cX3_meet 12 = .ok (.invokevirtual 46, 3) := by decide +kernel
theorem dX3_meet_15 : decode cX3_meet 15 = .ok (.ireturn, 1) := by decide +kernel
theorem dX3_meet_16 : decode cX3_meet 16 = .ok (.aload_n 0, 1) := by decide +kernel
theorem dX3_meet_17 : decode cX3_meet 17 = .ok (.aload_n 0, 1) := by decide +kernel
theorem dX3_meet_18 : decode cX3_meet 18 = .ok (.iconst 0, 1) := by decide +kernel
theorem dX3_meet_19 : decode cX3_meet 19 = .ok (.iload_n 1, 1) := by decide +kernel
theorem dX3_meet_20 : decode cX3_meet 20 = .ok (.iload_n 2, 1) := by decide +kernel
theorem dX3_meet_21 : decode cX3_meet 21 = .ok (.invokevirtual 155, 3) := by decide +kernel
theorem dX3_meet_24 : decode cX3_meet 24 = .ok (.invokevirtual 159, 3) := by decide +kernel
theorem dX3_meet_27 : decode cX3_meet 27 = .ok (.ireturn, 1) := by decide +kernel
theorem dX3_when_0 : decode cX3_when 0 = .ok (.aload_n 0, 1) := by decide +kernel
theorem dX3_when_1 : decode cX3_when 1 = .ok (.getfield 10, 3) := by decide +kernel
theorem dX3_when_4 : decode cX3_when 4 = .ok (.iload_n 1, 1) := by decide +kernel
theorem dX3_when_5 : decode cX3_when 5 = .ok (.invokevirtual 76, 3) := by decide +kernel
theorem dX3_when_8 : decode cX3_when 8 = .ok (.ifCond .ne 10, 3) := by decide +kernel
theorem dX3_when_11 : decode cX3_when 11 = .ok (.aload_n 0, 1) := by decide +kernel
theorem dX3_when_12 : decode cX3_when 12 = .ok (.ldc 45, 2) := by decide +kernel
theorem dX3_when_14 : decode cX3_when 14 = .ok (.invokevirtual 46, 3) := by decide +kernel
theorem dX3_when_17 : decode cX3_when 17 = .ok (.ireturn, 1) := by decide +kernel
theorem dX3_when_18 : decode cX3_when 18 = .ok (.aload_n 0, 1) := by decide +kernel
theorem dX3_when_19 : decode cX3_when 19 = .ok (.aload_n 0, 1) := by decide +kernel
theorem dX3_when_20 : decode cX3_when 20 = .ok (.iconst 0, 1) := by decide +kernel
theorem dX3_when_21 : decode cX3_when 21 = .ok (.iload_n 1, 1) := by decide +kernel
theorem dX3_when_22 : decode cX3_when 22 = .ok (.bipush (-2), 2) := by decide +kernel
theorem dX3_when_24 : decode cX3_when 24 = .ok (.invokevirtual 155, 3) := by decide +kernel
theorem dX3_when_27 : decode cX3_when 27 = .ok (.invokevirtual 159, 3) := by decide +kernel
theorem dX3_when_30 : decode cX3_when 30 = .ok (.ireturn, 1) := by decide +kernel
theorem dX3_till_0 : decode cX3_till 0 = .ok (.aload_n 0, 1) := by decide +kernel
theorem dX3_till_1 : decode cX3_till 1 = .ok (.getfield 10, 3) := by decide +kernel
theorem dX3_till_4 : decode cX3_till 4 = .ok (.iload_n 1, 1) := by decide +kernel
theorem dX3_till_5 : decode cX3_till 5 = .ok (.invokevirtual 76, 3) := by decide +kernel
theorem dX3_till_8 : decode cX3_till 8 = .ok (.ifCond .ne 10, 3) := by decide +kernel
theorem dX3_till_11 : decode cX3_till 11 = .ok (.aload_n 0, 1) := by decide +kernel
theorem dX3_till_12 : decode cX3_till 12 = .ok (.ldc 45, 2) := by decide +kernel
theorem dX3_till_14 : decode cX3_till 14 = .ok (.invokevirtual 46, 3) := by decide +kernel
theorem dX3_till_17 : decode cX3_till 17 = .ok (.ireturn, 1) := by decide +kernel
theorem dX3_till_18 : decode cX3_till 18 = .ok (.aload_n 0, 1) := by decide +kernel
theorem dX3_till_19 : decode cX3_till 19 = .ok (.aload_n 0, 1) := by decide +kernel
theorem dX3_till_20 : decode cX3_till 20 = .ok (.iconst 1, 1) := by decide +kernel
theorem dX3_till_21 : decode cX3_till 21 = .ok (.iload_n 1, 1) := by decide +kernel
theorem dX3_till_22 : decode cX3_till 22 = .ok (.bipush (-2), 2) := by decide +kernel
theorem dX3_till_24 : decode cX3_till 24 = .ok (.invokevirtual 155, 3) := by decide +kernel
theorem dX3_till_27 : decode cX3_till 27 = .ok (.invokevirtual 159, 3) := by decide +kernel
theorem dX3_till_30 : decode cX3_till 30 = .ok (.ireturn, 1) := by decide +kernel
theorem dX3_glad_0 : decode cX3_glad 0 = .ok (.aload_n 0, 1) := by decide +kernel
theorem dX3_glad_1 : decode cX3_glad 1 = .ok (.getfield 10, 3) := by decide +kernel
theorem dX3_glad_4 : decode cX3_glad 4 = .ok (.iload_n 1, 1) := by decide +kernel
theorem dX3_glad_5 : decode cX3_glad 5 = .ok (.invokevirtual 76, 3) := by decide +kernel
theorem dX3_glad_8 : decode cX3_glad 8 = .ok (.ifCond .ne 10, 3) := by decide +kernel
theorem dX3_glad_11 : decode cX3_glad 11 = .ok (.aload_n 0, 1) := by decide +kernel
theorem dX3_glad_12 : decode cX3_glad 12 = .ok (.ldc 45, 2) := by decide +kernel
theorem dX3_glad_14 : decode cX3_glad 14 = .ok (.invokevirtual 46, 3) := by decide +kernel
theorem dX3_glad_17 : decode cX3_glad 17 = .ok (.ireturn, 1) := by decide +kernel
theorem dX3_glad_18 : decode cX3_glad 18 = .ok (.aload_n 0, 1) := by decide +kernel
theorem dX3_glad_19 : decode cX3_glad 19 = .ok (.aload_n 0, 1) := by decide +kernel
theorem dX3_glad_20 : decode cX3_glad 20 = .ok (.iconst 2, 1) := by decide +kernel
theorem dX3_glad_21 : decode cX3_glad 21 = .ok (.iload_n 1, 1) := by decide +kernel
theorem dX3_glad_22 : decode cX3_glad 22 = .ok (.bipush (-2), 2) := by decide +kernel
theorem dX3_glad_24 : decode cX3_glad 24 = .ok (.invokevirtual 155, 3) := by decide +kernel
theorem dX3_glad_27 : decode cX3_glad 27 = .ok (.invokevirtual 159, 3) := by decide +kernel
theorem dX3_glad_30 : decode cX3_glad 30 = .ok (.ireturn, 1) := by decide +kernel
theorem dX3_heading_0 : decode cX3_heading 0 = .ok (.aload_n 0, 1) := by decide +kernel
theorem dX3_heading_1 : decode cX3_heading 1 = .ok (.iload_n 1, 1) := by decide +kernel
theorem dX3_heading_2 : decode cX3_heading 2 = .ok (.iload_n 2, 1) := by decide +kernel
theorem dX3_heading_3 : decode cX3_heading 3 = .ok (.invokevirtual 117, 3) := by decide +kernel
theorem dX3_heading_6 : decode cX3_heading 6 = .ok (.ifCond .ne 10, 3) := by decide +kernel
theorem dX3_heading_9 : decode cX3_heading 9 = .ok (.aload_n 0, 1) := by decide +kernel
theorem dX3_heading_10 : decode cX3_heading 10 = .ok (.ldc 45, 2) := by decide +kernel
theorem dX3_heading_12 : decode cX3_heading 12 = .ok (.invokevirtual 46, 3) := by decide +kernel
theorem dX3_heading_15 : decode cX3_heading 15 = .ok (.ireturn, 1) := by decide +kernel
theorem dX3_heading_16 : decode cX3_heading 16 = .ok (.aload_n 0, 1) := by decide +kernel
theorem dX3_heading_17 : decode cX3_heading 17 = .ok (.aload_n 0, 1) := by decide +kernel
theorem dX3_heading_18 : decode cX3_heading 18 = .ok (.iconst 0, 1) := by decide +kernel
theorem dX3_heading_19 : decode cX3_heading 19 = .ok (.iconst 4, 1) := by decide +kernel
theorem dX3_heading_20 : decode cX3_heading 20 = .ok (.bipush 100, 2) := by decide +kernel
theorem dX3_heading_22 : decode cX3_heading 22 = .ok (.iload_n 1, 1) := by decide +kernel
theorem dX3_heading_23 : decode cX3_heading 23 = .ok (.iload_n 2, 1) := by decide +kernel
theorem dX3_heading_24 : decode cX3_heading 24 = .ok (.invokevirtual 162, 3) := by decide +kernel
theorem dX3_heading_27 : decode cX3_heading 27 = .ok (.invokevirtual 159, 3) := by decide +kernel
theorem dX3_heading_30 : decode cX3_heading 30 = .ok (.ireturn, 1) := by decide +kernel
theorem dX3_begin_0 : decode cX3_begin 0 = .ok (.aload_n 0, 1) := by decide +kernel
theorem dX3_begin_1 : decode cX3_begin 1 = .ok (.iload_n 1, 1) := by decide +kernel
theorem dX3_begin_2 : decode cX3_begin 2 = .ok (.iload_n 2, 1) := by decide +kernel
theorem dX3_begin_3 : decode cX3_begin 3 = .ok (.invokevirtual 117, 3) := by decide +kernel
theorem dX3_begin_6 : decode cX3_begin 6 = .ok (.ifCond .ne 10, 3) := by decide +kernel
theorem dX3_begin_9 : decode cX3_begin 9 = .ok (.aload_n 0, 1) := by decide +kernel
theorem dX3_begin_10 : decode cX3_begin 10 = .ok (.ldc 45, 2) := by decide +kernel
theorem dX3_begin_12 : decode cX3_begin 12 = .ok (.invokevirtual 46, 3) := by decide +kernel
theorem dX3_begin_15 : decode cX3_begin 15 = .ok (.ireturn, 1) := by decide +kernel
theorem dX3_begin_16 : decode cX3_begin 16 = .ok (.aload_n 0, 1) := by decide +kernel
theorem dX3_begin_17 : decode cX3_begin 17 = .ok (.aload_n 0, 1) := by decide +kernel
theorem dX3_begin_18 : decode cX3_begin 18 = .ok (.iconst 1, 1) := by decide +kernel
theorem dX3_begin_19 : decode cX3_begin 19 = .ok (.bipush 36, 2) := by decide +kernel
theorem dX3_begin_21 : decode cX3_begin 21 = .ok (.bipush 30, 2) := by decide +kernel
theorem dX3_begin_23 : decode cX3_begin 23 = .ok (.iload_n 1, 1) := by decide +kernel
theorem dX3_begin_24 : decode cX3_begin 24 = .ok (.iload_n 2, 1) := by decide +kernel
theorem dX3_begin_25 : decode cX3_begin 25 = .ok (.invokevirtual 162, 3) := by decide +kernel
theorem dX3_begin_28 : decode cX3_begin 28 = .ok (.invokevirtual 159, 3) := by decide +kernel
theorem dX3_begin_31 : decode cX3_begin 31 = .ok (.ireturn, 1) := by decide +kernel
theorem dX3_kind_0 : decode cX3_kind 0 = .ok (.aload_n 0, 1) := by decide +kernel
theorem dX3_kind_1 : decode cX3_kind 1 = .ok (.getfield 10, 3) := by decide +kernel
theorem dX3_kind_4 : decode cX3_kind 4 = .ok (.iload_n 1, 1) := by decide +kernel
theorem dX3_kind_5 : decode cX3_kind 5 = .ok (.invokevirtual 76, 3) := by decide +kernel
theorem dX3_kind_8 : decode cX3_kind 8 = .ok (.ifCond .ne 10, 3) := by decide +kernel
theorem dX3_kind_11 : decode cX3_kind 11 = .ok (.aload_n 0, 1) := by decide +kernel
theorem dX3_kind_12 : decode cX3_kind 12 = .ok (.ldc 45, 2) := by decide +kernel
theorem dX3_kind_14 : decode cX3_kind 14 = .ok (.invokevirtual 46, 3) := by decide +kernel
theorem dX3_kind_17 : decode cX3_kind 17 = .ok (.ireturn, 1) := by decide +kernel
theorem dX3_kind_18 : decode cX3_kind 18 = .ok (.aload_n 0, 1) := by decide +kernel
theorem dX3_kind_19 : decode cX3_kind 19 = .ok (.aload_n 0, 1) := by decide +kernel
theorem dX3_kind_20 : decode cX3_kind 20 = .ok (.iconst 2, 1) := by decide +kernel
theorem dX3_kind_21 : decode cX3_kind 21 = .ok (.bipush 6, 2) := by decide +kernel
theorem dX3_kind_23 : decode cX3_kind 23 = .ok (.bipush 100, 2) := by decide +kernel
theorem dX3_kind_25 : decode cX3_kind 25 = .ok (.iload_n 1, 1) := by decide +kernel
theorem dX3_kind_26 : decode cX3_kind 26 = .ok (.bipush (-2), 2) := by decide +kernel
theorem dX3_kind_28 : decode cX3_kind 28 = .ok (.invokevirtual 162, 3) := by decide +kernel
theorem dX3_kind_31 : decode cX3_kind 31 = .ok (.invokevirtual 159, 3) := by decide +kernel
theorem dX3_kind_34 : decode cX3_kind 34 = .ok (.ireturn, 1) := by decide +kernel
theorem dX3_hour_0 : decode cX3_hour 0 = .ok (.aload_n 0, 1) := by decide +kernel
theorem dX3_hour_1 : decode cX3_hour 1 = .ok (.iload_n 1, 1) := by decide +kernel
theorem dX3_hour_2 : decode cX3_hour 2 = .ok (.iload_n 2, 1) := by decide +kernel
theorem dX3_hour_3 : decode cX3_hour 3 = .ok (.invokevirtual 117, 3) := by decide +kernel
theorem dX3_hour_6 : decode cX3_hour 6 = .ok (.ifCond .ne 10, 3) := by decide +kernel
theorem dX3_hour_9 : decode cX3_hour 9 = .ok (.aload_n 0, 1) := by decide +kernel
theorem dX3_hour_10 : decode cX3_hour 10 = .ok (.ldc 45, 2) := by decide +kernel
theorem dX3_hour_12 : decode cX3_hour 12 = .ok (.invokevirtual 46, 3) := by decide +kernel
theorem dX3_hour_15 : decode cX3_hour 15 = .ok (.ireturn, 1) := by decide +kernel
theorem dX3_hour_16 : decode cX3_hour 16 = .ok (.aload_n 0, 1) := by decide +kernel
theorem dX3_hour_17 : decode cX3_hour 17 = .ok (.aload_n 0, 1) := by decide +kernel
theorem dX3_hour_18 : decode cX3_hour 18 = .ok (.iconst 3, 1) := by decide +kernel
theorem dX3_hour_19 : decode cX3_hour 19 = .ok (.bipush 24, 2) := by decide +kernel
theorem dX3_hour_21 : decode cX3_hour 21 = .ok (.bipush 60, 2) := by decide +kernel
theorem dX3_hour_23 : decode cX3_hour 23 = .ok (.iload_n 1, 1) := by decide +kernel
theorem dX3_hour_24 : decode cX3_hour 24 = .ok (.iload_n 2, 1) := by decide +kernel
theorem dX3_hour_25 : decode cX3_hour 25 = .ok (.invokevirtual 162, 3) := by decide +kernel
theorem dX3_hour_28 : decode cX3_hour 28 = .ok (.invokevirtual 159, 3) := by decide +kernel
theorem dX3_hour_31 : decode cX3_hour 31 = .ok (.ireturn, 1) := by decide +kernel
theorem dX3_hope_0 : decode cX3_hope 0 = .ok (.aload_n 0, 1) := by decide +kernel
theorem dX3_hope_1 : decode cX3_hope 1 = .ok (.getfield 10, 3) := by decide +kernel
theorem dX3_hope_4 : decode cX3_hope 4 = .ok (.iload_n 1, 1) := by decide +kernel
theorem dX3_hope_5 : decode cX3_hope 5 = .ok (.invokevirtual 76, 3) := by decide +kernel
theorem dX3_hope_8 : decode cX3_hope 8 = .ok (.ifCond .eq 13, 3) := by decide +kernel
theorem dX3_hope_11 : decode cX3_hope 11 = .ok (.iload_n 2, 1) := by decide +kernel
theorem dX3_hope_12 : decode cX3_hope 12 = .ok (.ifCond .lt 9, 3) := by decide +kernel
theorem dX3_hope_15 : decode cX3_hope 15 = .ok (.iload_n 2, 1) := by decide +kernel
theorem dX3_hope_16 : decode cX3_hope 16 = .ok (.bipush 60, 2) := by decide +kernel
theorem dX3_hope_18 : decode cX3_hope 18 = .ok (.if_icmp .le 10, 3) := by decide +kernel
theorem dX3_hope_21 : decode cX3_hope 21 = .ok (.aload_n 0, 1) := by decide +kernel
theorem dX3_hope_22 : decode cX3_hope 22 = .ok (.ldc 45, 2) := by decide +kernel
theorem dX3_hope_24 : decode cX3_hope 24 = .ok (.invokevirtual 46, 3) := by decide +kernel
theorem dX3_hope_27 : decode cX3_hope 27 = .ok (.ireturn, 1) := by decide +kernel
theorem dX3_hope_28 : decode cX3_hope 28 = .ok (.aload_n 0, 1) := by decide +kernel
theorem dX3_hope_29 : decode cX3_hope 29 = .ok (.iconst 4, 1) := by decide +kernel
theorem dX3_hope_30 : decode cX3_hope 30 = .ok (.bipush 16, 2) := by decide +kernel
theorem dX3_hope_32 : decode cX3_hope 32 = .ok (.iload_n 2, 1) := by decide +kernel
theorem dX3_hope_33 : decode cX3_hope 33 = .ok (.iload_n 1, 1) := by decide +kernel
theorem dX3_hope_34 : decode cX3_hope 34 = .ok (.invokevirtual 166, 3) := by decide +kernel
theorem dX3_hope_37 : decode cX3_hope 37 = .ok (.ireturn, 1) := by decide +kernel
theorem dX3_more_0 : decode cX3_more 0 = .ok (.iload_n 1, 1) := by decide +kernel
theorem dX3_more_1 : decode cX3_more 1 = .ok (.ifCond .lt 9, 3) := by decide +kernel
theorem dX3_more_4 : decode cX3_more 4 = .ok (.iload_n 1, 1) := by decide +kernel
theorem dX3_more_5 : decode cX3_more 5 = .ok (.bipush 60, 2) := by decide +kernel
theorem dX3_more_7 : decode cX3_more 7 = .ok (.if_icmp .le 10, 3) := by decide +kernel
theorem dX3_more_10 : decode cX3_more 10 = .ok (.aload_n 0, 1) := by decide +kernel
theorem dX3_more_11 : decode cX3_more 11 = .ok (.ldc 45, 2) := by decide +kernel
theorem dX3_more_13 : decode cX3_more 13 = .ok (.invokevirtual 46, 3) := by decide +kernel
theorem dX3_more_16 : decode cX3_more 16 = .ok (.ireturn, 1) := by decide +kernel
theorem dX3_more_17 : decode cX3_more 17 = .ok (.aload_n 0, 1) := by decide +kernel
theorem dX3_more_18 : decode cX3_more 18 = .ok (.iconst 5, 1) := by decide +kernel
theorem dX3_more_19 : decode cX3_more 19 = .ok (.bipush 24, 2) := by decide +kernel
theorem dX3_more_21 : decode cX3_more 21 = .ok (.iload_n 1, 1) := by decide +kernel
theorem dX3_more_22 : decode cX3_more 22 = .ok (.iconst (-1), 1) := by decide +kernel
theorem dX3_more_23 : decode cX3_more 23 = .ok (.invokevirtual 166, 3) := by decide +kernel
theorem dX3_more_26 : decode cX3_more 26 = .ok (.ireturn, 1) := by decide +kernel
theorem dX3_best_0 : decode cX3_best 0 = .ok (.iload_n 1, 1) := by decide +kernel
theorem dX3_best_1 : decode cX3_best 1 = .ok (.ifCond .lt 9, 3) := by decide +kernel
theorem dX3_best_4 : decode cX3_best 4 = .ok (.iload_n 1, 1) := by decide +kernel
theorem dX3_best_5 : decode cX3_best 5 = .ok (.bipush 30, 2) := by decide +kernel
theorem dX3_best_7 : decode cX3_best 7 = .ok (.if_icmp .le 10, 3) := by decide +kernel
theorem dX3_best_10 : decode cX3_best 10 = .ok (.aload_n 0, 1) := by decide +kernel
theorem dX3_best_11 : decode cX3_best 11 = .ok (.ldc 45, 2) := by decide +kernel
theorem dX3_best_13 : decode cX3_best 13 = .ok (.invokevirtual 46, 3) := by decide +kernel
theorem dX3_best_16 : decode cX3_best 16 = .ok (.ireturn, 1) := by decide +kernel
theorem dX3_best_17 : decode cX3_best 17 = .ok (.aload_n 0, 1) := by decide +kernel
theorem dX3_best_18 : decode cX3_best 18 = .ok (.bipush 6, 2) := by decide +kernel
theorem dX3_best_20 : decode cX3_best 20 = .ok (.bipush 36, 2) := by decide +kernel
theorem dX3_best_22 : decode cX3_best 22 = .ok (.iload_n 1, 1) := by decide +kernel
theorem dX3_best_23 : decode cX3_best 23 = .ok (.iconst (-1), 1) := by decide +kernel
theorem dX3_best_24 : decode cX3_best 24 = .ok (.invokevirtual 166, 3) := by decide +kernel
theorem dX3_best_27 : decode cX3_best 27 = .ok (.ireturn, 1) := by decide +kernel
theorem dX3_feed_0 : decode cX3_feed 0 = .ok (.iload_n 2, 1) := by decide +kernel
theorem dX3_feed_1 : decode cX3_feed 1 = .ok (.iconst 1, 1) := by decide +kernel
theorem dX3_feed_2 : decode cX3_feed 2 = .ok (.if_icmp .lt 8, 3) := by decide +kernel
theorem dX3_feed_5 : decode cX3_feed 5 = .ok (.iload_n 2, 1) := by decide +kernel
theorem dX3_feed_6 : decode cX3_feed 6 = .ok (.iconst 4, 1) := by decide +kernel
theorem dX3_feed_7 : decode cX3_feed 7 = .ok (.if_icmp .le 10, 3) := by decide +kernel
theorem dX3_feed_10 : decode cX3_feed 10 = .ok (.aload_n 0, 1) := by decide +kernel
theorem dX3_feed_11 : decode cX3_feed 11 = .ok (.ldc 45, 2) := by decide +kernel
theorem dX3_feed_13 : decode cX3_feed 13 = .ok (.invokevirtual 46, 3) := by decide +kernel
theorem dX3_feed_16 : decode cX3_feed 16 = .ok (.ireturn, 1) := by decide +kernel
theorem dX3_feed_17 : decode cX3_feed 17 = .ok (.aload_n 0, 1) := by decide +kernel
theorem dX3_feed_18 : decode cX3_feed 18 = .ok (.getfield 29, 3) := by decide +kernel
theorem dX3_feed_21 : decode cX3_feed 21 = .ok (.getfield 170, 3) := by decide +kernel
theorem dX3_feed_24 : decode cX3_feed 24 = .ok (.bipush 120, 2) := by decide +kernel
theorem dX3_feed_26 : decode cX3_feed 26 = .ok (.iload_n 2, 1) := by decide +kernel
theorem dX3_feed_27 : decode cX3_feed 27 = .ok (.isub, 1) := by decide +kernel
theorem dX3_feed_28 : decode cX3_feed 28 = .ok (.if_icmp .le 10, 3) := by decide +kernel
theorem dX3_feed_31 : decode cX3_feed 31 = .ok (.aload_n 0, 1) := by decide +kernel
theorem dX3_feed_32 : decode cX3_feed 32 = .ok (.ldc 71, 2) := by decide +kernel
theorem dX3_feed_34 : decode cX3_feed 34 = .ok (.invokevirtual 46, 3) := by decide +kernel
theorem dX3_feed_37 : decode cX3_feed 37 = .ok (.ireturn, 1) := by decide +kernel
theorem dX3_feed_38 : decode cX3_feed 38 = .ok (.aload_n 0, 1) := by decide +kernel
theorem dX3_feed_39 : decode cX3_feed 39 = .ok (.getfield 29, 3) := by decide +kernel
theorem dX3_feed_42 : decode cX3_feed 42 = .ok (.iload_n 1, 1) := by decide +kernel
theorem dX3_feed_43 : decode cX3_feed 43 = .ok (.iload_n 2, 1) := by decide +kernel
theorem dX3_feed_44 : decode cX3_feed 44 = .ok (.invokevirtual 173, 3) := by decide +kernel
theorem dX3_feed_47 : decode cX3_feed 47 = .ok (.aload_n 0, 1) := by decide +kernel
theorem dX3_feed_48 : decode cX3_feed 48 = .ok (.getfield 29, 3) := by decide +kernel
theorem dX3_feed_51 : decode cX3_feed 51 = .ok (.getfield 170, 3) := by decide +kernel
theorem dX3_feed_54 : decode cX3_feed 54 = .ok (.ireturn, 1) := by decide +kernel
theorem dX3_wipe_0 : decode cX3_wipe 0 = .ok (.aload_n 0, 1) := by decide +kernel
theorem dX3_wipe_1 : decode cX3_wipe 1 = .ok (.getfield 29, 3) := by decide +kernel
theorem dX3_wipe_4 : decode cX3_wipe 4 = .ok (.getfield 170, 3) := by decide +kernel
theorem dX3_wipe_7 : decode cX3_wipe 7 = .ok (.istore_n 1, 1) := by decide +kernel
theorem dX3_wipe_8 : decode cX3_wipe 8 = .ok (.aload_n 0, 1) := by decide +kernel
theorem dX3_wipe_9 : decode cX3_wipe 9 = .ok (.getfield 29, 3) := by decide +kernel
theorem dX3_wipe_12 : decode cX3_wipe 12 = .ok (.iconst 0, 1) := by decide +kernel
theorem dX3_wipe_13 : decode cX3_wipe 13 = .ok (.putfield 170, 3) := by decide +kernel
theorem dX3_wipe_16 : decode cX3_wipe 16 = .ok (.iload_n 1, 1) := by decide +kernel
theorem dX3_wipe_17 : decode cX3_wipe 17 = .ok (.ireturn, 1) := by decide +kernel
theorem dX3_moor_0 : decode cX3_moor 0 = .ok (.aload_n 0, 1) := by decide +kernel
theorem dX3_moor_1 : decode cX3_moor 1 = .ok (.getfield 16, 3) := by decide +kernel
theorem dX3_moor_4 : decode cX3_moor 4 = .ok (.aload_n 0, 1) := by decide +kernel
theorem dX3_moor_5 : decode cX3_moor 5 = .ok (.getfield 10, 3) := by decide +kernel
theorem dX3_moor_8 : decode cX3_moor 8 = .ok (.invokevirtual 148, 3) := by decide +kernel
theorem dX3_moor_11 : decode cX3_moor 11 = .ok (.aload_n 0, 1) := by decide +kernel
theorem dX3_moor_12 : decode cX3_moor 12 = .ok (.getfield 29, 3) := by decide +kernel
theorem dX3_moor_15 : decode cX3_moor 15 = .ok (.aload_n 0, 1) := by decide +kernel
theorem dX3_moor_16 : decode cX3_moor 16 = .ok (.getfield 16, 3) := by decide +kernel
theorem dX3_moor_19 : decode cX3_moor 19 = .ok (.invokevirtual 176, 3) := by decide +kernel
theorem dX3_moor_22 : decode cX3_moor 22 = .ok (.istore_n 1, 1) := by decide +kernel
theorem dX3_moor_23 : decode cX3_moor 23 = .ok (.aload_n 0, 1) := by decide +kernel
theorem dX3_moor_24 : decode cX3_moor 24 = .ok (.getfield 29, 3) := by decide +kernel
theorem dX3_moor_27 : decode cX3_moor 27 = .ok (.iconst 0, 1) := by decide +kernel
theorem dX3_moor_28 : decode cX3_moor 28 = .ok (.putfield 170, 3) := by decide +kernel
theorem dX3_moor_31 : decode cX3_moor 31 = .ok (.iload_n 1, 1) := by decide +kernel
theorem dX3_moor_32 : decode cX3_moor 32 = .ok (.ifCond .le 14, 3) := by decide +kernel
theorem dX3_moor_35 : decode cX3_moor 35 = .ok (.aload_n 0, 1) := by decide +kernel
theorem dX3_moor_36 : decode cX3_moor 36 = .ok (.getfield 10, 3) := by decide +kernel
theorem dX3_moor_39 : decode cX3_moor 39 = .ok (.aload_n 0, 1) := by decide +kernel
theorem dX3_moor_40 : decode cX3_moor 40 = .ok (.getfield 16, 3) := by decide +kernel
theorem dX3_moor_43 : decode cX3_moor 43 = .ok (.invokevirtual 148, 3) := by decide +kernel
theorem dX3_moor_46 : decode cX3_moor 46 = .ok (.iload_n 1, 1) := by decide +kernel
theorem dX3_moor_47 : decode cX3_moor 47 = .ok (.ireturn, 1) := by decide +kernel
theorem dX3_sheet_0 : decode cX3_sheet 0 = .ok (.iload_n 2, 1) := by decide +kernel
theorem dX3_sheet_1 : decode cX3_sheet 1 = .ok (.ifCond .eq 21, 3) := by decide +kernel
theorem dX3_sheet_4 : decode cX3_sheet 4 = .ok (.iload_n 2, 1) := by decide +kernel
theorem dX3_sheet_5 : decode cX3_sheet 5 = .ok (.bipush 8, 2) := by decide +kernel
theorem dX3_sheet_7 : decode cX3_sheet 7 = .ok (.if_icmp .eq 15, 3) := by decide +kernel
theorem dX3_sheet_10 : decode cX3_sheet 10 = .ok (.iload_n 2, 1) := by decide +kernel
theorem dX3_sheet_11 : decode cX3_sheet 11 = .ok (.bipush 16, 2) := by decide +kernel
theorem dX3_sheet_13 : decode cX3_sheet 13 = .ok (.if_icmp .eq 9, 3) := by decide +kernel
theorem dX3_sheet_16 : decode cX3_sheet 16 = .ok (.iload_n 2, 1) := by decide +kernel
theorem dX3_sheet_17 : decode cX3_sheet 17 = .ok (.bipush 64, 2) := by decide +kernel
theorem dX3_sheet_19 : decode cX3_sheet 19 = .ok (.if_icmp .ne 7, 3) := by decide +kernel
theorem dX3_sheet_22 : decode cX3_sheet 22 = .ok (.iconst 1, 1) := by decide +kernel
theorem dX3_sheet_23 : decode cX3_sheet 23 = .ok (.goto 4, 3) := by decide +kernel
theorem dX3_sheet_26 : decode cX3_sheet 26 = .ok (.iconst 0, 1) := by decide +kernel
theorem dX3_sheet_27 : decode cX3_sheet 27 = .ok (.istore 4, 2) := by decide +kernel
theorem dX3_sheet_29 : decode cX3_sheet 29 = .ok (.aload_n 0, 1) := by decide +kernel
theorem dX3_sheet_30 : decode cX3_sheet 30 = .ok (.iload_n 1, 1) := by decide +kernel
theorem dX3_sheet_31 : decode cX3_sheet 31 = .ok (.invokevirtual 180, 3) := by decide +kernel
theorem dX3_sheet_34 : decode cX3_sheet 34 = .ok (.astore 5, 2) := by decide +kernel
theorem dX3_sheet_36 : decode cX3_sheet 36 = .ok (.aload 5, 2) := by decide +kernel
theorem dX3_sheet_38 : decode cX3_sheet 38 = .ok (.ifnull 8, 3) := by decide +kernel
theorem dX3_sheet_41 : decode cX3_sheet 41 = .ok (.iload 4, 2) := by decide +kernel
theorem dX3_sheet_43 : decode cX3_sheet 43 = .ok (.ifCond .ne 10, 3) := by decide +kernel
theorem dX3_sheet_46 : decode cX3_sheet 46 = .ok (.aload_n 0, 1) := by decide +kernel
theorem dX3_sheet_47 : decode cX3_sheet 47 = .ok (.ldc 45, 2) := by decide +kernel
theorem dX3_sheet_49 : decode cX3_sheet 49 = .ok (.invokevirtual 46, 3) := by decide +kernel
theorem dX3_sheet_52 : decode cX3_sheet 52 = .ok (.ireturn, 1) := by decide +kernel
theorem dX3_sheet_53 : decode cX3_sheet 53 = .ok (.iload_n 3, 1) := by decide +kernel
theorem dX3_sheet_54 : decode cX3_sheet 54 = .ok (.ifCond .ge 10, 3) := by decide +kernel
theorem dX3_sheet_57 : decode cX3_sheet 57 = .ok (.aload_n 0, 1) := by decide +kernel
theorem dX3_sheet_58 : decode cX3_sheet 58 = .ok (.ldc 184, 2) := by decide +kernel
theorem dX3_sheet_60 : decode cX3_sheet 60 = .ok (.invokevirtual 46, 3) := by decide +kernel
theorem dX3_sheet_63 : decode cX3_sheet 63 = .ok (.ireturn, 1) := by decide +kernel
theorem dX3_sheet_64 : decode cX3_sheet 64 = .ok (.iload_n 3, 1) := by decide +kernel
theorem dX3_sheet_65 : decode cX3_sheet 65 = .ok (.bipush 40, 2) := by decide +kernel
theorem dX3_sheet_67 : decode cX3_sheet 67 = .ok (.if_icmp .le 10, 3) := by decide +kernel
theorem dX3_sheet_70 : decode cX3_sheet 70 = .ok (.aload_n 0, 1) := by decide +kernel
theorem dX3_sheet_71 : decode cX3_sheet 71 = .ok (.ldc 45, 2) := by decide +kernel
theorem dX3_sheet_73 : decode cX3_sheet 73 = .ok (.invokevirtual 46, 3) := by decide +kernel
theorem dX3_sheet_76 : decode cX3_sheet 76 = .ok (.ireturn, 1) := by decide +kernel
theorem dX3_sheet_77 : decode cX3_sheet 77 = .ok (.aload 5, 2) := by decide +kernel
theorem dX3_sheet_79 : decode cX3_sheet 79 = .ok (.iload_n 2, 1) := by decide +kernel
theorem dX3_sheet_80 : decode cX3_sheet 80 = .ok (.iload_n 3, 1) := by decide +kernel
theorem dX3_sheet_81 : decode cX3_sheet 81 = .ok (.invokevirtual 185, 3) := by decide +kernel
theorem dX3_sheet_84 : decode cX3_sheet 84 = .ok (.aload 5, 2) := by decide +kernel
theorem dX3_sheet_86 : decode cX3_sheet 86 = .ok (.getfield 188, 3) := by decide +kernel
theorem dX3_sheet_89 : decode cX3_sheet 89 = .ok (.ireturn, 1) := by decide +kernel
theorem dX3_write_0 : decode cX3_write 0 = .ok (.aload_n 0, 1) := by decide +kernel
theorem dX3_write_1 : decode cX3_write 1 = .ok (.iload_n 1, 1) := by decide +kernel
theorem dX3_write_2 : decode cX3_write 2 = .ok (.invokevirtual 180, 3) := by decide +kernel
theorem dX3_write_5 : decode cX3_write 5 = .ok (.astore 5, 2) := by decide +kernel
theorem dX3_write_7 : decode cX3_write 7 = .ok (.aload 5, 2) := by decide +kernel
theorem dX3_write_9 : decode cX3_write 9 = .ok (.ifnonnull 11, 3) := by decide +kernel
theorem dX3_write_12 : decode cX3_write 12 = .ok (.aload_n 0, 1) := by decide +kernel
theorem dX3_write_13 : decode cX3_write 13 = .ok (.ldc 45, 2) := by decide +kernel
theorem dX3_write_15 : decode cX3_write 15 = .ok (.invokevirtual 46, 3) := by decide +kernel
theorem dX3_write_18 : decode cX3_write 18 = .ok (.i2l, 1) := by decide +kernel
theorem dX3_write_19 : decode cX3_write 19 = .ok (.lreturn, 1) := by decide +kernel
theorem dX3_write_20 : decode cX3_write 20 = .ok (.aload 5, 2) := by decide +kernel
theorem dX3_write_22 : decode cX3_write 22 = .ok (.invokevirtual 191, 3) := by decide +kernel
theorem dX3_write_25 : decode cX3_write 25 = .ok (.ifCond .eq 11, 3) := by decide +kernel
theorem dX3_write_28 : decode cX3_write 28 = .ok (.aload_n 0, 1) := by decide +kernel
theorem dX3_write_29 : decode cX3_write 29 = .ok (.ldc 194, 2) := by decide +kernel
theorem dX3_write_31 : decode cX3_write 31 = .ok (.invokevirtual 46, 3) := by decide +kernel
theorem dX3_write_34 : decode cX3_write 34 = .ok (.i2l, 1) := by decide +kernel
theorem dX3_write_35 : decode cX3_write 35 = .ok (.lreturn, 1) := by decide +kernel
theorem dX3_write_36 : decode cX3_write 36 = .ok (.iload_n 2, 1) := by decide +kernel
theorem dX3_write_37 : decode cX3_write 37 = .ok (.ifCond .lt 12, 3) := by decide +kernel
theorem dX3_write_40 : decode cX3_write 40 = .ok (.iload_n 2, 1) := by decide +kernel
theorem dX3_write_41 : decode cX3_write 41 = .ok (.aload 5, 2) := by decide +kernel
theorem dX3_write_43 : decode cX3_write 43 = .ok (.getfield 188, 3) := by decide +kernel
theorem dX3_write_46 : decode cX3_write 46 = .ok (.if_icmp .lt 11, 3) := by decide +kernel
theorem dX3_write_49 : decode cX3_write 49 = .ok (.aload_n 0, 1) := by decide +kernel
theorem dX3_write_50 : decode cX3_write 50 = .ok (.ldc 45, 2) := by decide +kernel
theorem dX3_write_52 : decode cX3_write 52 = .ok (.invokevirtual 46, 3) := by decide +kernel
theorem dX3_write_55 : decode cX3_write 55 = .ok (.i2l, 1) := by decide +kernel
theorem dX3_write_56 : decode cX3_write 56 = .ok (.lreturn, 1) := by decide +kernel
theorem dX3_write_57 : decode cX3_write 57 = .ok (.aload 5, 2) := by decide +kernel
theorem dX3_write_59 : decode cX3_write 59 = .ok (.getfield 195, 3) := by decide +kernel
theorem dX3_write_62 : decode cX3_write 62 = .ok (.iload_n 2, 1) := by decide +kernel
theorem dX3_write_63 : decode cX3_write 63 = .ok (.laload, 1) := by decide +kernel
theorem dX3_write_64 : decode cX3_write 64 = .ok (.lstore 6, 2) := by decide +kernel
theorem dX3_write_66 : decode cX3_write 66 = .ok (.aload 5, 2) := by decide +kernel
theorem dX3_write_68 : decode cX3_write 68 = .ok (.iload_n 2, 1) := by decide +kernel
theorem dX3_write_69 : decode cX3_write 69 = .ok (.lload_n 3, 1) := by decide +kernel
theorem dX3_write_70 : decode cX3_write 70 = .ok (.invokevirtual 199, 3) := by decide +kernel
theorem dX3_write_73 : decode cX3_write 73 = .ok (.lload 6, 2) := by decide +kernel
theorem dX3_write_75 : decode cX3_write 75 = .ok (.lreturn, 1) := by decide +kernel
theorem dX3_copy_0 : decode cX3_copy 0 = .ok (.aload_n 0, 1) := by decide +kernel
theorem dX3_copy_1 : decode cX3_copy 1 = .ok (.iload_n 1, 1) := by decide +kernel
theorem dX3_copy_2 : decode cX3_copy 2 = .ok (.invokevirtual 180, 3) := by decide +kernel
theorem dX3_copy_5 : decode cX3_copy 5 = .ok (.astore 6, 2) := by decide +kernel
theorem dX3_copy_7 : decode cX3_copy 7 = .ok (.aload_n 0, 1) := by decide +kernel
theorem dX3_copy_8 : decode cX3_copy 8 = .ok (.iload_n 3, 1) := by decide +kernel
theorem dX3_copy_9 : decode cX3_copy 9 = .ok (.invokevirtual 180, 3) := by decide +kernel
theorem dX3_copy_12 : decode cX3_copy 12 = .ok (.astore 7, 2) := by decide +kernel
theorem dX3_copy_14 : decode cX3_copy 14 = .ok (.aload 6, 2) := by decide +kernel
theorem dX3_copy_16 : decode cX3_copy 16 = .ok (.ifnull 8, 3) := by decide +kernel
theorem dX3_copy_19 : decode cX3_copy 19 = .ok (.aload 7, 2) := by decide +kernel
theorem dX3_copy_21 : decode cX3_copy 21 = .ok (.ifnonnull 10, 3) := by decide +kernel
theorem dX3_copy_24 : decode cX3_copy 24 = .ok (.aload_n 0, 1) := by decide +kernel
theorem dX3_copy_25 : decode cX3_copy 25 = .ok (.ldc 45, 2) := by decide +kernel
theorem dX3_copy_27 : decode cX3_copy 27 = .ok (.invokevirtual 46, 3) := by decide +kernel
theorem dX3_copy_30 : decode cX3_copy 30 = .ok (.ireturn, 1) := by decide +kernel
theorem dX3_copy_31 : decode cX3_copy 31 = .ok (.aload 6, 2) := by decide +kernel
theorem dX3_copy_33 : decode cX3_copy 33 = .ok (.invokevirtual 191, 3) := by decide +kernel
theorem dX3_copy_36 : decode cX3_copy 36 = .ok (.ifCond .ne 11, 3) := by decide +kernel
theorem dX3_copy_39 : decode cX3_copy 39 = .ok (.aload 7, 2) := by decide +kernel
theorem dX3_copy_41 : decode cX3_copy 41 = .ok (.invokevirtual 191, 3) := by decide +kernel
theorem dX3_copy_44 : decode cX3_copy 44 = .ok (.ifCond .eq 10, 3) := by decide +kernel
theorem dX3_copy_47 : decode cX3_copy 47 = .ok (.aload_n 0, 1) := by decide +kernel
theorem dX3_copy_48 : decode cX3_copy 48 = .ok (.ldc 194, 2) := by decide +kernel
theorem dX3_copy_50 : decode cX3_copy 50 = .ok (.invokevirtual 46, 3) := by decide +kernel
theorem dX3_copy_53 : decode cX3_copy 53 = .ok (.ireturn, 1) := by decide +kernel
theorem dX3_copy_54 : decode cX3_copy 54 = .ok (.aload 6, 2) := by decide +kernel
theorem dX3_copy_56 : decode cX3_copy 56 = .ok (.getfield 203, 3) := by decide +kernel
theorem dX3_copy_59 : decode cX3_copy 59 = .ok (.aload 7, 2) := by decide +kernel
theorem dX3_copy_61 : decode cX3_copy 61 = .ok (.getfield 203, 3) := by decide +kernel
theorem dX3_copy_64 : decode cX3_copy 64 = .ok (.if_icmp .eq 10, 3) := by decide +kernel
theorem dX3_copy_67 : decode cX3_copy 67 = .ok (.aload_n 0, 1) := by decide +kernel
theorem dX3_copy_68 : decode cX3_copy 68 = .ok (.ldc 105, 2) := by decide +kernel
theorem dX3_copy_70 : decode cX3_copy 70 = .ok (.invokevirtual 46, 3) := by decide +kernel
theorem dX3_copy_73 : decode cX3_copy 73 = .ok (.ireturn, 1) := by decide +kernel
theorem dX3_copy_74 : decode cX3_copy 74 = .ok (.aload 6, 2) := by decide +kernel
theorem dX3_copy_76 : decode cX3_copy 76 = .ok (.iload_n 2, 1) := by decide +kernel
theorem dX3_copy_77 : decode cX3_copy 77 = .ok (.iload 5, 2) := by decide +kernel
theorem dX3_copy_79 : decode cX3_copy 79 = .ok (.invokevirtual 206, 3) := by decide +kernel
theorem dX3_copy_82 : decode cX3_copy 82 = .ok (.ifCond .eq 15, 3) := by decide +kernel
theorem dX3_copy_85 : decode cX3_copy 85 = .ok (.aload 7, 2) := by decide +kernel
theorem dX3_copy_87 : decode cX3_copy 87 = .ok (.iload 4, 2) := by decide +kernel
theorem dX3_copy_89 : decode cX3_copy 89 = .ok (.iload 5, 2) := by decide +kernel
theorem dX3_copy_91 : decode cX3_copy 91 = .ok (.invokevirtual 206, 3) := by decide +kernel
theorem dX3_copy_94 : decode cX3_copy 94 = .ok (.ifCond .ne 10, 3) := by decide +kernel
theorem dX3_copy_97 : decode cX3_copy 97 = .ok (.aload_n 0, 1) := by decide +kernel
theorem dX3_copy_98 : decode cX3_copy 98 = .ok (.ldc 45, 2) := by decide +kernel
theorem dX3_copy_100 : decode cX3_copy 100 = .ok (.invokevirtual 46, 3) := by decide +kernel
theorem dX3_copy_103 : decode cX3_copy 103 = .ok (.ireturn, 1) := by decide +kernel
theorem dX3_copy_104 : decode cX3_copy 104 = .ok (.aload 6, 2) := by decide +kernel
theorem dX3_copy_106 : decode cX3_copy 106 = .ok (.getfield 195, 3) := by decide +kernel
theorem dX3_copy_109 : decode cX3_copy 109 = .ok (.iload_n 2, 1) := by decide +kernel
theorem dX3_copy_110 : decode cX3_copy 110 = .ok (.aload 7, 2) := by decide +kernel
theorem dX3_copy_112 : decode cX3_copy 112 = .ok (.getfield 195, 3) := by decide +kernel
theorem dX3_copy_115 : decode cX3_copy 115 = .ok (.iload 4, 2) := by decide +kernel
theorem dX3_copy_117 : decode cX3_copy 117 = .ok (.iload 5, 2) := by decide +kernel
theorem dX3_copy_119 : decode cX3_copy 119 = .ok (.invokestatic 209, 3) := by decide +kernel
theorem dX3_copy_122 : decode cX3_copy 122 = .ok (.iload 5, 2) := by decide +kernel
theorem dX3_copy_124 : decode cX3_copy 124 = .ok (.ireturn, 1) := by decide +kernel
theorem dX3_lays_0 : decode cX3_lays 0 = .ok (.aload_n 0, 1) := by decide +kernel
theorem dX3_lays_1 : decode cX3_lays 1 = .ok (.iload_n 1, 1) := by decide +kernel
theorem dX3_lays_2 : decode cX3_lays 2 = .ok (.invokevirtual 180, 3) := by decide +kernel
theorem dX3_lays_5 : decode cX3_lays 5 = .ok (.astore_n 2, 1) := by decide +kernel
theorem dX3_lays_6 : decode cX3_lays 6 = .ok (.aload_n 2, 1) := by decide +kernel
theorem dX3_lays_7 : decode cX3_lays 7 = .ok (.ifnonnull 10, 3) := by decide +kernel
theorem dX3_lays_10 : decode cX3_lays 10 = .ok (.aload_n 0, 1) := by decide +kernel
theorem dX3_lays_11 : decode cX3_lays 11 = .ok (.ldc 45, 2) := by decide +kernel
theorem dX3_lays_13 : decode cX3_lays 13 = .ok (.invokevirtual 46, 3) := by decide +kernel
theorem dX3_lays_16 : decode cX3_lays 16 = .ok (.ireturn, 1) := by decide +kernel
theorem dX3_lays_17 : decode cX3_lays 17 = .ok (.aload_n 2, 1) := by decide +kernel
theorem dX3_lays_18 : decode cX3_lays 18 = .ok (.invokevirtual 191, 3) := by decide +kernel
theorem dX3_lays_21 : decode cX3_lays 21 = .ok (.ifCond .eq 10, 3) := by decide +kernel
theorem dX3_lays_24 : decode cX3_lays 24 = .ok (.aload_n 0, 1) := by decide +kernel
theorem dX3_lays_25 : decode cX3_lays 25 = .ok (.ldc 194, 2) := by decide +kernel
theorem dX3_lays_27 : decode cX3_lays 27 = .ok (.invokevirtual 46, 3) := by decide +kernel
theorem dX3_lays_30 : decode cX3_lays 30 = .ok (.ireturn, 1) := by decide +kernel
theorem dX3_lays_31 : decode cX3_lays 31 = .ok (.iconst 0, 1) := by decide +kernel
theorem dX3_lays_32 : decode cX3_lays 32 = .ok (.istore_n 3, 1) := by decide +kernel
theorem dX3_lays_33 : decode cX3_lays 33 = .ok (.iconst 0, 1) := by decide +kernel
theorem dX3_lays_34 : decode cX3_lays 34 = .ok (.istore 4, 2) := by decide +kernel
theorem dX3_lays_36 : decode cX3_lays 36 = .ok (.iload 4, 2) := by decide +kernel
theorem dX3_lays_38 : decode cX3_lays 38 = .ok (.aload_n 2, 1) := by decide +kernel
theorem dX3_lays_39 : decode cX3_lays 39 = .ok (.getfield 188, 3) := by decide +kernel
theorem dX3_lays_42 : decode cX3_lays 42 = .ok (.if_icmp .ge 62, 3) := by decide +kernel
theorem dX3_lays_45 : decode cX3_lays 45 = .ok (.iload 4, 2) := by decide +kernel
theorem dX3_lays_47 : decode cX3_lays 47 = .ok (.aload_n 0, 1) := by decide +kernel
theorem dX3_lays_48 : decode cX3_lays 48 = .ok (.getfield 10, 3) := by decide +kernel
theorem dX3_lays_51 : decode cX3_lays 51 = .ok (.getfield 215, 3) := by decide +kernel
theorem dX3_lays_54 : decode cX3_lays 54 = .ok (.if_icmp .ge 50, 3) := by decide +kernel
theorem dX3_lays_57 : decode cX3_lays 57 = .ok (.aload_n 2, 1) := by decide +kernel
theorem dX3_lays_58 : decode cX3_lays 58 = .ok (.getfield 195, 3) := by decide +kernel
theorem dX3_lays_61 : decode cX3_lays 61 = .ok (.iload 4, 2) := by decide +kernel
theorem dX3_lays_63 : decode cX3_lays 63 = .ok (.laload, 1) := by decide +kernel
theorem dX3_lays_64 : decode cX3_lays 64 = .ok (.lstore 5, 2) := by decide +kernel
theorem dX3_lays_66 : decode cX3_lays 66 = .ok (.lload 5, 2) := by decide +kernel
theorem dX3_lays_68 : decode cX3_lays 68 = .ok (.lconst 0, 1) := by decide +kernel
theorem dX3_lays_69 : decode cX3_lays 69 = .ok (.lcmp, 1) := by decide +kernel
theorem dX3_lays_70 : decode cX3_lays 70 = .ok (.ifCond .lt 28, 3) := by decide +kernel
theorem dX3_lays_73 : decode cX3_lays 73 = .ok (.lload 5, 2) := by decide +kernel
theorem dX3_lays_75 : decode cX3_lays 75 = .ok (.ldc2_w 218, 3) := by decide +kernel
theorem dX3_lays_78 : decode cX3_lays 78 = .ok (.lcmp, 1) := by decide +kernel
theorem dX3_lays_79 : decode cX3_lays 79 = .ok (.ifCond .ge 19, 3) := by decide +kernel
theorem dX3_lays_82 : decode cX3_lays 82 = .ok (.aload_n 0, 1) := by decide +kernel
theorem dX3_lays_83 : decode cX3_lays 83 = .ok (.getfield 10, 3) := by decide +kernel
theorem dX3_lays_86 : decode cX3_lays 86 = .ok (.getfield 95, 3) := by decide +kernel
theorem dX3_lays_89 : decode cX3_lays 89 = .ok (.iload 4, 2) := by decide +kernel
theorem dX3_lays_91 : decode cX3_lays 91 = .ok (.lload 5, 2) := by decide +kernel
theorem dX3_lays_93 : decode cX3_lays 93 = .ok (.l2i, 1) := by decide +kernel
theorem dX3_lays_94 : decode cX3_lays 94 = .ok (.iastore, 1) := by decide +kernel
theorem dX3_lays_95 : decode cX3_lays 95 = .ok (.iinc 3 1, 3) := by decide +kernel
theorem dX3_lays_98 : decode cX3_lays 98 = .ok (.iinc 4 1, 3) := by decide +kernel
theorem dX3_lays_101 : decode cX3_lays 101 = .ok (.goto (-65), 3) := by decide +kernel
theorem dX3_lays_104 : decode cX3_lays 104 = .ok (.iload_n 3, 1) := by decide +kernel
theorem dX3_lays_105 : decode cX3_lays 105 = .ok (.ireturn, 1) := by decide +kernel
theorem dX3_book_0 : decode cX3_book 0 = .ok (.aload_n 0, 1) := by decide +kernel
theorem dX3_book_1 : decode cX3_book 1 = .ok (.iload_n 1, 1) := by decide +kernel
theorem dX3_book_2 : decode cX3_book 2 = .ok (.iload_n 2, 1) := by decide +kernel
theorem dX3_book_3 : decode cX3_book 3 = .ok (.invokevirtual 220, 3) := by decide +kernel
theorem dX3_book_6 : decode cX3_book 6 = .ok (.istore_n 3, 1) := by decide +kernel
theorem dX3_book_7 : decode cX3_book 7 = .ok (.aload_n 0, 1) := by decide +kernel
theorem dX3_book_8 : decode cX3_book 8 = .ok (.iload_n 1, 1) := by decide +kernel
theorem dX3_book_9 : decode cX3_book 9 = .ok (.invokevirtual 180, 3) := by decide +kernel
theorem dX3_book_12 : decode cX3_book 12 = .ok (.astore 4, 2) := by decide +kernel
theorem dX3_book_14 : decode cX3_book 14 = .ok (.iload_n 3, 1) := by decide +kernel
theorem dX3_book_15 : decode cX3_book 15 = .ok (.ifCond .ne 8, 3) := by decide +kernel
theorem dX3_book_18 : decode cX3_book 18 = .ok (.aload 4, 2) := by decide +kernel
theorem dX3_book_20 : decode cX3_book 20 = .ok (.ifnonnull 9, 3) := by decide +kernel
theorem dX3_book_23 : decode cX3_book 23 = .ok (.aload_n 0, 1) := by decide +kernel
theorem dX3_book_24 : decode cX3_book 24 = .ok (.iload_n 3, 1) := by decide +kernel
theorem dX3_book_25 : decode cX3_book 25 = .ok (.invokevirtual 46, 3) := by decide +kernel
theorem dX3_book_28 : decode cX3_book 28 = .ok (.ireturn, 1) := by decide +kernel
theorem dX3_book_29 : decode cX3_book 29 = .ok (.aload_n 0, 1) := by decide +kernel
theorem dX3_book_30 : decode cX3_book 30 = .ok (.getfield 16, 3) := by decide +kernel
theorem dX3_book_33 : decode cX3_book 33 = .ok (.aload_n 0, 1) := by decide +kernel
theorem dX3_book_34 : decode cX3_book 34 = .ok (.getfield 10, 3) := by decide +kernel
theorem dX3_book_37 : decode cX3_book 37 = .ok (.invokevirtual 148, 3) := by decide +kernel
theorem dX3_book_40 : decode cX3_book 40 = .ok (.iconst 0, 1) := by decide +kernel
theorem dX3_book_41 : decode cX3_book 41 = .ok (.istore 5, 2) := by decide +kernel
theorem dX3_book_43 : decode cX3_book 43 = .ok (.iload 5, 2) := by decide +kernel
theorem dX3_book_45 : decode cX3_book 45 = .ok (.aload 4, 2) := by decide +kernel
theorem dX3_book_47 : decode cX3_book 47 = .ok (.getfield 188, 3) := by decide +kernel
theorem dX3_book_50 : decode cX3_book 50 = .ok (.if_icmp .ge 33, 3) := by decide +kernel
theorem dX3_book_53 : decode cX3_book 53 = .ok (.aload 4, 2) := by decide +kernel
theorem dX3_book_55 : decode cX3_book 55 = .ok (.iload 5, 2) := by decide +kernel
theorem dX3_book_57 : decode cX3_book 57 = .ok (.aload_n 0, 1) := by decide +kernel
theorem dX3_book_58 : decode cX3_book 58 = .ok (.getfield 16, 3) := by decide +kernel
theorem dX3_book_61 : decode cX3_book 61 = .ok (.getfield 120, 3) := by decide +kernel
theorem dX3_book_64 : decode cX3_book 64 = .ok (.iload_n 2, 1) := by decide +kernel
theorem dX3_book_65 : decode cX3_book 65 = .ok (.iaload, 1) := by decide +kernel
theorem dX3_book_66 : decode cX3_book 66 = .ok (.i2l, 1) := by decide +kernel
theorem dX3_book_67 : decode cX3_book 67 = .ok (.invokevirtual 199, 3) := by decide +kernel
theorem dX3_book_70 : decode cX3_book 70 = .ok (.aload_n 0, 1) := by decide +kernel
theorem dX3_book_71 : decode cX3_book 71 = .ok (.getfield 16, 3) := by decide +kernel
theorem dX3_book_74 : decode cX3_book 74 = .ok (.invokevirtual 223, 3) := by decide +kernel
theorem dX3_book_77 : decode cX3_book 77 = .ok (.iinc 5 1, 3) := by decide +kernel
theorem dX3_book_80 : decode cX3_book 80 = .ok (.goto (-37), 3) := by decide +kernel
theorem dX3_book_83 : decode cX3_book 83 = .ok (.aload 4, 2) := by decide +kernel
theorem dX3_book_85 : decode cX3_book 85 = .ok (.getfield 188, 3) := by decide +kernel
theorem dX3_book_88 : decode cX3_book 88 = .ok (.ireturn, 1) := by decide +kernel
theorem dX3_read_0 : decode cX3_read 0 = .ok (.aload_n 0, 1) := by decide +kernel
theorem dX3_read_1 : decode cX3_read 1 = .ok (.iload_n 1, 1) := by decide +kernel
theorem dX3_read_2 : decode cX3_read 2 = .ok (.iload_n 2, 1) := by decide +kernel
theorem dX3_read_3 : decode cX3_read 3 = .ok (.invokevirtual 220, 3) := by decide +kernel
theorem dX3_read_6 : decode cX3_read 6 = .ok (.istore_n 3, 1) := by decide +kernel
theorem dX3_read_7 : decode cX3_read 7 = .ok (.aload_n 0, 1) := by decide +kernel
theorem dX3_read_8 : decode cX3_read 8 = .ok (.iload_n 1, 1) := by decide +kernel
theorem dX3_read_9 : decode cX3_read 9 = .ok (.invokevirtual 180, 3) := by decide +kernel
theorem dX3_read_12 : decode cX3_read 12 = .ok (.astore 4, 2) := by decide +kernel
theorem dX3_read_14 : decode cX3_read 14 = .ok (.iload_n 3, 1) := by decide +kernel
theorem dX3_read_15 : decode cX3_read 15 = .ok (.ifCond .ne 8, 3) := by decide +kernel
theorem dX3_read_18 : decode cX3_read 18 = .ok (.aload 4, 2) := by decide +kernel
theorem dX3_read_20 : decode cX3_read 20 = .ok (.ifnonnull 9, 3) := by decide +kernel
theorem dX3_read_23 : decode cX3_read 23 = .ok (.aload_n 0, 1) := by decide +kernel
theorem dX3_read_24 : decode cX3_read 24 = .ok (.iload_n 3, 1) := by decide +kernel
theorem dX3_read_25 : decode cX3_read 25 = .ok (.invokevirtual 46, 3) := by decide +kernel
theorem dX3_read_28 : decode cX3_read 28 = .ok (.ireturn, 1) := by decide +kernel
theorem dX3_read_29 : decode cX3_read 29 = .ok (.iconst 0, 1) := by decide +kernel
theorem dX3_read_30 : decode cX3_read 30 = .ok (.istore 5, 2) := by decide +kernel
theorem dX3_read_32 : decode cX3_read 32 = .ok (.iconst 0, 1) := by decide +kernel
theorem dX3_read_33 : decode cX3_read 33 = .ok (.istore 6, 2) := by decide +kernel
theorem dX3_read_35 : decode cX3_read 35 = .ok (.iload 6, 2) := by decide +kernel
theorem dX3_read_37 : decode cX3_read 37 = .ok (.bipush 6, 2) := by decide +kernel
theorem dX3_read_39 : decode cX3_read 39 = .ok (.if_icmp .ge 70, 3) := by decide +kernel
theorem dX3_read_42 : decode cX3_read 42 = .ok (.iconst 0, 1) := by decide +kernel
theorem dX3_read_43 : decode cX3_read 43 = .ok (.istore 7, 2) := by decide +kernel
theorem dX3_read_45 : decode cX3_read 45 = .ok (.iload 7, 2) := by decide +kernel
theorem dX3_read_47 : decode cX3_read 47 = .ok (.iconst 4, 1) := by decide +kernel
theorem dX3_read_48 : decode cX3_read 48 = .ok (.if_icmp .ge 55, 3) := by decide +kernel
theorem dX3_read_51 : decode cX3_read 51 = .ok (.aload_n 0, 1) := by decide +kernel
theorem dX3_read_52 : decode cX3_read 52 = .ok (.getfield 16, 3) := by decide +kernel
theorem dX3_read_55 : decode cX3_read 55 = .ok (.aload_n 0, 1) := by decide +kernel
theorem dX3_read_56 : decode cX3_read 56 = .ok (.getfield 10, 3) := by decide +kernel
theorem dX3_read_59 : decode cX3_read 59 = .ok (.invokevirtual 148, 3) := by decide +kernel
theorem dX3_read_62 : decode cX3_read 62 = .ok (.aload_n 0, 1) := by decide +kernel
theorem dX3_read_63 : decode cX3_read 63 = .ok (.getfield 16, 3) := by decide +kernel
theorem dX3_read_66 : decode cX3_read 66 = .ok (.getfield 98, 3) := by decide +kernel
theorem dX3_read_69 : decode cX3_read 69 = .ok (.iload_n 2, 1) := by decide +kernel
theorem dX3_read_70 : decode cX3_read 70 = .ok (.iload 6, 2) := by decide +kernel
theorem dX3_read_72 : decode cX3_read 72 = .ok (.iastore, 1) := by decide +kernel
theorem dX3_read_73 : decode cX3_read 73 = .ok (.aload_n 0, 1) := by decide +kernel
theorem dX3_read_74 : decode cX3_read 74 = .ok (.getfield 16, 3) := by decide +kernel
theorem dX3_read_77 : decode cX3_read 77 = .ok (.getfield 92, 3) := by decide +kernel
theorem dX3_read_80 : decode cX3_read 80 = .ok (.iload_n 2, 1) := by decide +kernel
theorem dX3_read_81 : decode cX3_read 81 = .ok (.iload 7, 2) := by decide +kernel
theorem dX3_read_83 : decode cX3_read 83 = .ok (.iastore, 1) := by decide +kernel
theorem dX3_read_84 : decode cX3_read 84 = .ok (.aload_n 0, 1) := by decide +kernel
theorem dX3_read_85 : decode cX3_read 85 = .ok (.aload 4, 2) := by decide +kernel
theorem dX3_read_87 : decode cX3_read 87 = .ok (.iload_n 2, 1) := by decide +kernel
theorem dX3_read_88 : decode cX3_read 88 = .ok (.invokevirtual 226, 3) := by decide +kernel
theorem dX3_read_91 : decode cX3_read 91 = .ok (.ifCond .eq 6, 3) := by decide +kernel
theorem dX3_read_94 : decode cX3_read 94 = .ok (.iinc 5 1, 3) := by decide +kernel
theorem dX3_read_97 : decode cX3_read 97 = .ok (.iinc 7 1, 3) := by decide +kernel
theorem dX3_read_100 : decode cX3_read 100 = .ok (.goto (-55), 3) := by decide +kernel
theorem dX3_read_103 : decode cX3_read 103 = .ok (.iinc 6 1, 3) := by decide +kernel
theorem dX3_read_106 : decode cX3_read 106 = .ok (.goto (-71), 3) := by decide +kernel
theorem dX3_read_109 : decode cX3_read 109 = .ok (.iload 5, 2) := by decide +kernel
theorem dX3_read_111 : decode cX3_read 111 = .ok (.ireturn, 1) := by decide +kernel
theorem dX3_image_0 : decode cX3_image 0 = .ok (.aload_n 0, 1) := by decide +kernel
theorem dX3_image_1 : decode cX3_image 1 = .ok (.getfield 19, 3) := by decide +kernel
theorem dX3_image_4 : decode cX3_image 4 = .ok (.aload_n 0, 1) := by decide +kernel
theorem dX3_image_5 : decode cX3_image 5 = .ok (.getfield 10, 3) := by decide +kernel
theorem dX3_image_8 : decode cX3_image 8 = .ok (.invokevirtual 148, 3) := by decide +kernel
theorem dX3_image_11 : decode cX3_image 11 = .ok (.aload_n 0, 1) := by decide +kernel
theorem dX3_image_12 : decode cX3_image 12 = .ok (.iconst 1, 1) := by decide +kernel
theorem dX3_image_13 : decode cX3_image 13 = .ok (.putfield 22, 3) := by decide +kernel
theorem dX3_image_16 : decode cX3_image 16 = .ok (.iconst 1, 1) := by decide +kernel
theorem dX3_image_17 : decode cX3_image 17 = .ok (.ireturn, 1) := by decide +kernel
theorem dX3_undo_0 : decode cX3_undo 0 = .ok (.aload_n 0, 1) := by decide +kernel
theorem dX3_undo_1 : decode cX3_undo 1 = .ok (.getfield 22, 3) := by decide +kernel
theorem dX3_undo_4 : decode cX3_undo 4 = .ok (.ifCond .ne 10, 3) := by decide +kernel
theorem dX3_undo_7 : decode cX3_undo 7 = .ok (.aload_n 0, 1) := by decide +kernel
theorem dX3_undo_8 : decode cX3_undo 8 = .ok (.ldc 230, 2) := by decide +kernel
theorem dX3_undo_10 : decode cX3_undo 10 = .ok (.invokevirtual 46, 3) := by decide +kernel
theorem dX3_undo_13 : decode cX3_undo 13 = .ok (.ireturn, 1) := by decide +kernel
theorem dX3_undo_14 : decode cX3_undo 14 = .ok (.aload_n 0, 1) := by decide +kernel
theorem dX3_undo_15 : decode cX3_undo 15 = .ok (.getfield 10, 3) := by decide +kernel
theorem dX3_undo_18 : decode cX3_undo 18 = .ok (.aload_n 0, 1) := by decide +kernel
theorem dX3_undo_19 : decode cX3_undo 19 = .ok (.getfield 19, 3) := by decide +kernel
theorem dX3_undo_22 : decode cX3_undo 22 = .ok (.invokevirtual 148, 3) := by decide +kernel
theorem dX3_undo_25 : decode cX3_undo 25 = .ok (.aload_n 0, 1) := by decide +kernel
theorem dX3_undo_26 : decode cX3_undo 26 = .ok (.getfield 10, 3) := by decide +kernel
theorem dX3_undo_29 : decode cX3_undo 29 = .ok (.getfield 215, 3) := by decide +kernel
theorem dX3_undo_32 : decode cX3_undo 32 = .ok (.ireturn, 1) := by decide +kernel
theorem dX3_tear_0 : decode cX3_tear 0 = .ok (.aload_n 0, 1) := by decide +kernel
theorem dX3_tear_1 : decode cX3_tear 1 = .ok (.getfield 22, 3) := by decide +kernel
theorem dX3_tear_4 : decode cX3_tear 4 = .ok (.ifCond .eq 7, 3) := by decide +kernel
theorem dX3_tear_7 : decode cX3_tear 7 = .ok (.iconst 1, 1) := by decide +kernel
theorem dX3_tear_8 : decode cX3_tear 8 = .ok (.goto 4, 3) := by decide +kernel
theorem dX3_tear_11 : decode cX3_tear 11 = .ok (.iconst 0, 1) := by decide +kernel
theorem dX3_tear_12 : decode cX3_tear 12 = .ok (.istore_n 1, 1) := by decide +kernel
theorem dX3_tear_13 : decode cX3_tear 13 = .ok (.aload_n 0, 1) := by decide +kernel
theorem dX3_tear_14 : decode cX3_tear 14 = .ok (.iconst 0, 1) := by decide +kernel
theorem dX3_tear_15 : decode cX3_tear 15 = .ok (.putfield 22, 3) := by decide +kernel
theorem dX3_tear_18 : decode cX3_tear 18 = .ok (.iload_n 1, 1) := by decide +kernel
theorem dX3_tear_19 : decode cX3_tear 19 = .ok (.ireturn, 1) := by decide +kernel
theorem dX3_count_0 : decode cX3_count 0 = .ok (.iload_n 1, 1) := by decide +kernel
theorem dX3_count_1 : decode cX3_count 1 = .ok (.tableswitch 69 0 3 #[31, 39, 47, 58], 31) := by decide +kernel
theorem dX3_count_32 : decode cX3_count 32 = .ok (.aload_n 0, 1) := by decide +kernel
theorem dX3_count_33 : decode cX3_count 33 = .ok (.getfield 10, 3) := by decide +kernel
theorem dX3_count_36 : decode cX3_count 36 = .ok (.getfield 215, 3) := by decide +kernel
theorem dX3_count_39 : decode cX3_count 39 = .ok (.ireturn, 1) := by decide +kernel
theorem dX3_count_40 : decode cX3_count 40 = .ok (.aload_n 0, 1) := by decide +kernel
theorem dX3_count_41 : decode cX3_count 41 = .ok (.getfield 29, 3) := by decide +kernel
theorem dX3_count_44 : decode cX3_count 44 = .ok (.getfield 170, 3) := by decide +kernel
theorem dX3_count_47 : decode cX3_count 47 = .ok (.ireturn, 1) := by decide +kernel
theorem dX3_count_48 : decode cX3_count 48 = .ok (.aload_n 0, 1) := by decide +kernel
theorem dX3_count_49 : decode cX3_count 49 = .ok (.getfield 10, 3) := by decide +kernel
theorem dX3_count_52 : decode cX3_count 52 = .ok (.invokevirtual 126, 3) := by decide +kernel
theorem dX3_count_55 : decode cX3_count 55 = .ok (.invokestatic 130, 3) := by decide +kernel
theorem dX3_count_58 : decode cX3_count 58 = .ok (.ireturn, 1) := by decide +kernel
theorem dX3_count_59 : decode cX3_count 59 = .ok (.aload_n 0, 1) := by decide +kernel
theorem dX3_count_60 : decode cX3_count 60 = .ok (.getfield 10, 3) := by decide +kernel
theorem dX3_count_63 : decode cX3_count 63 = .ok (.getfield 50, 3) := by decide +kernel
theorem dX3_count_66 : decode cX3_count 66 = .ok (.invokestatic 130, 3) := by decide +kernel
theorem dX3_count_69 : decode cX3_count 69 = .ok (.ireturn, 1) := by decide +kernel
theorem dX3_count_70 : decode cX3_count 70 = .ok (.aload_n 0, 1) := by decide +kernel
theorem dX3_count_71 : decode cX3_count 71 = .ok (.ldc 45, 2) := by decide +kernel
theorem dX3_count_73 : decode cX3_count 73 = .ok (.invokevirtual 46, 3) := by decide +kernel
theorem dX3_count_76 : decode cX3_count 76 = .ok (.ireturn, 1) := by decide +kernel
theorem dX3_status_0 : decode cX3_status 0 = .ok (.iload_n 1, 1) := by decide +kernel
theorem dX3_status_1 : decode cX3_status 1 = .ok (.iconst (-1), 1) := by decide +kernel
theorem dX3_status_2 : decode cX3_status 2 = .ok (.if_icmp .lt 9, 3) := by decide +kernel
theorem dX3_status_5 : decode cX3_status 5 = .ok (.iload_n 1, 1) := by decide +kernel
theorem dX3_status_6 : decode cX3_status 6 = .ok (.bipush 7, 2) := by decide +kernel
theorem dX3_status_8 : decode cX3_status 8 = .ok (.if_icmp .lt 10, 3) := by decide +kernel
theorem dX3_status_11 : decode cX3_status 11 = .ok (.aload_n 0, 1) := by decide +kernel
theorem dX3_status_12 : decode cX3_status 12 = .ok (.ldc 45, 2) := by decide +kernel
theorem dX3_status_14 : decode cX3_status 14 = .ok (.invokevirtual 46, 3) := by decide +kernel
theorem dX3_status_17 : decode cX3_status 17 = .ok (.ireturn, 1) := by decide +kernel
theorem dX3_status_18 : decode cX3_status 18 = .ok (.iload_n 1, 1) := by decide +kernel
theorem dX3_status_19 : decode cX3_status 19 = .ok (.ifCond .lt 10, 3) := by decide +kernel
theorem dX3_status_22 : decode cX3_status 22 = .ok (.aload_n 0, 1) := by decide +kernel
theorem dX3_status_23 : decode cX3_status 23 = .ok (.getfield 39, 3) := by decide +kernel
theorem dX3_status_26 : decode cX3_status 26 = .ok (.iload_n 1, 1) := by decide +kernel
theorem dX3_status_27 : decode cX3_status 27 = .ok (.iaload, 1) := by decide +kernel
theorem dX3_status_28 : decode cX3_status 28 = .ok (.ireturn, 1) := by decide +kernel
theorem dX3_status_29 : decode cX3_status 29 = .ok (.iconst 0, 1) := by decide +kernel
theorem dX3_status_30 : decode cX3_status 30 = .ok (.istore_n 2, 1) := by decide +kernel
theorem dX3_status_31 : decode cX3_status 31 = .ok (.iconst 0, 1) := by decide +kernel
theorem dX3_status_32 : decode cX3_status 32 = .ok (.istore_n 3, 1) := by decide +kernel
theorem dX3_status_33 : decode cX3_status 33 = .ok (.iload_n 3, 1) := by decide +kernel
theorem dX3_status_34 : decode cX3_status 34 = .ok (.bipush 7, 2) := by decide +kernel
theorem dX3_status_36 : decode cX3_status 36 = .ok (.if_icmp .ge 18, 3) := by decide +kernel
theorem dX3_status_39 : decode cX3_status 39 = .ok (.iload_n 2, 1) := by decide +kernel
theorem dX3_status_40 : decode cX3_status 40 = .ok (.aload_n 0, 1) := by decide +kernel
theorem dX3_status_41 : decode cX3_status 41 = .ok (.getfield 39, 3) := by decide +kernel
theorem dX3_status_44 : decode cX3_status 44 = .ok (.iload_n 3, 1) := by decide +kernel
theorem dX3_status_45 : decode cX3_status 45 = .ok (.iaload, 1) := by decide +kernel
theorem dX3_status_46 : decode cX3_status 46 = .ok (.iadd, 1) := by decide +kernel
theorem dX3_status_47 : decode cX3_status 47 = .ok (.istore_n 2, 1) := by decide +kernel
theorem dX3_status_48 : decode cX3_status 48 = .ok (.iinc 3 1, 3) := by decide +kernel
theorem dX3_status_51 : decode cX3_status 51 = .ok (.goto (-18), 3) := by decide +kernel
theorem dX3_status_54 : decode cX3_status 54 = .ok (.iload_n 2, 1) := by decide +kernel
theorem dX3_status_55 : decode cX3_status 55 = .ok (.ireturn, 1) := by decide +kernel
theorem dX3_finding_0 : decode cX3_finding 0 = .ok (.ldc 45, 2) := by decide +kernel
theorem dX3_finding_2 : decode cX3_finding 2 = .ok (.iload_n 1, 1) := by decide +kernel
theorem dX3_finding_3 : decode cX3_finding 3 = .ok (.isub, 1) := by decide +kernel
theorem dX3_finding_4 : decode cX3_finding 4 = .ok (.istore_n 2, 1) := by decide +kernel
theorem dX3_finding_5 : decode cX3_finding 5 = .ok (.iload_n 2, 1) := by decide +kernel
theorem dX3_finding_6 : decode cX3_finding 6 = .ok (.ifCond .lt 19, 3) := by decide +kernel
theorem dX3_finding_9 : decode cX3_finding 9 = .ok (.iload_n 2, 1) := by decide +kernel
theorem dX3_finding_10 : decode cX3_finding 10 = .ok (.bipush 7, 2) := by decide +kernel
theorem dX3_finding_12 : decode cX3_finding 12 = .ok (.if_icmp .ge 13, 3) := by decide +kernel
theorem dX3_finding_15 : decode cX3_finding 15 = .ok (.aload_n 0, 1) := by decide +kernel
theorem dX3_finding_16 : decode cX3_finding 16 = .ok (.getfield 39, 3) := by decide +kernel
theorem dX3_finding_19 : decode cX3_finding 19 = .ok (.iload_n 2, 1) := by decide +kernel
theorem dX3_finding_20 : decode cX3_finding 20 = .ok (.dup2, 1) := by decide +kernel
theorem dX3_finding_21 : decode cX3_finding 21 = .ok (.iaload, 1) := by decide +kernel
theorem dX3_finding_22 : decode cX3_finding 22 = .ok (.iconst 1, 1) := by decide +kernel
theorem dX3_finding_23 : decode cX3_finding 23 = .ok (.iadd, 1) := by decide +kernel
theorem dX3_finding_24 : decode cX3_finding 24 = .ok (.iastore, 1) := by decide +kernel
theorem dX3_finding_25 : decode cX3_finding 25 = .ok (.iload_n 1, 1) := by decide +kernel
theorem dX3_finding_26 : decode cX3_finding 26 = .ok (.ireturn, 1) := by decide +kernel
theorem dX3_orNone_0 : decode cX3_orNone 0 = .ok (.iload_n 1, 1) := by decide +kernel
theorem dX3_orNone_1 : decode cX3_orNone 1 = .ok (.ifCond .lt 7, 3) := by decide +kernel
theorem dX3_orNone_4 : decode cX3_orNone 4 = .ok (.iload_n 1, 1) := by decide +kernel
theorem dX3_orNone_5 : decode cX3_orNone 5 = .ok (.goto 9, 3) := by decide +kernel
theorem dX3_orNone_8 : decode cX3_orNone 8 = .ok (.aload_n 0, 1) := by decide +kernel
theorem dX3_orNone_9 : decode cX3_orNone 9 = .ok (.ldc 230, 2) := by decide +kernel
theorem dX3_orNone_11 : decode cX3_orNone 11 = .ok (.invokevirtual 46, 3) := by decide +kernel
theorem dX3_orNone_14 : decode cX3_orNone 14 = .ok (.ireturn, 1) := by decide +kernel
theorem dX3_areTwo_0 : decode cX3_areTwo 0 = .ok (.aload_n 0, 1) := by decide +kernel
theorem dX3_areTwo_1 : decode cX3_areTwo 1 = .ok (.getfield 10, 3) := by decide +kernel
theorem dX3_areTwo_4 : decode cX3_areTwo 4 = .ok (.iload_n 1, 1) := by decide +kernel
theorem dX3_areTwo_5 : decode cX3_areTwo 5 = .ok (.invokevirtual 76, 3) := by decide +kernel
theorem dX3_areTwo_8 : decode cX3_areTwo 8 = .ok (.ifCond .eq 23, 3) := by decide +kernel
theorem dX3_areTwo_11 : decode cX3_areTwo 11 = .ok (.aload_n 0, 1) := by decide +kernel
theorem dX3_areTwo_12 : decode cX3_areTwo 12 = .ok (.getfield 10, 3) := by decide +kernel
theorem dX3_areTwo_15 : decode cX3_areTwo 15 = .ok (.iload_n 2, 1) := by decide +kernel
theorem dX3_areTwo_16 : decode cX3_areTwo 16 = .ok (.invokevirtual 76, 3) := by decide +kernel
theorem dX3_areTwo_19 : decode cX3_areTwo 19 = .ok (.ifCond .eq 12, 3) := by decide +kernel
theorem dX3_areTwo_22 : decode cX3_areTwo 22 = .ok (.iload_n 1, 1) := by decide +kernel
theorem dX3_areTwo_23 : decode cX3_areTwo 23 = .ok (.iload_n 2, 1) := by decide +kernel
theorem dX3_areTwo_24 : decode cX3_areTwo 24 = .ok (.if_icmp .eq 7, 3) := by decide +kernel
theorem dX3_areTwo_27 : decode cX3_areTwo 27 = .ok (.iconst 1, 1) := by decide +kernel
theorem dX3_areTwo_28 : decode cX3_areTwo 28 = .ok (.goto 4, 3) := by decide +kernel
theorem dX3_areTwo_31 : decode cX3_areTwo 31 = .ok (.iconst 0, 1) := by decide +kernel
theorem dX3_areTwo_32 : decode cX3_areTwo 32 = .ok (.ireturn, 1) := by decide +kernel
theorem dX3_sheetOf_0 : decode cX3_sheetOf 0 = .ok (.iload_n 1, 1) := by decide +kernel
theorem dX3_sheetOf_1 : decode cX3_sheetOf 1 = .ok (.ifCond .lt 17, 3) := by decide +kernel
theorem dX3_sheetOf_4 : decode cX3_sheetOf 4 = .ok (.iload_n 1, 1) := by decide +kernel
theorem dX3_sheetOf_5 : decode cX3_sheetOf 5 = .ok (.iconst 4, 1) := by decide +kernel
theorem dX3_sheetOf_6 : decode cX3_sheetOf 6 = .ok (.if_icmp .ge 12, 3) := by decide +kernel
theorem dX3_sheetOf_9 : decode cX3_sheetOf 9 = .ok (.aload_n 0, 1) := by decide +kernel
theorem dX3_sheetOf_10 : decode cX3_sheetOf 10 = .ok (.getfield 35, 3) := by decide +kernel
theorem dX3_sheetOf_13 : decode cX3_sheetOf 13 = .ok (.iload_n 1, 1) := by decide +kernel
theorem dX3_sheetOf_14 : decode cX3_sheetOf 14 = .ok (.aaload, 1) := by decide +kernel
theorem dX3_sheetOf_15 : decode cX3_sheetOf 15 = .ok (.goto 4, 3) := by decide +kernel
theorem dX3_sheetOf_18 : decode cX3_sheetOf 18 = .ok (.aconst_null, 1) := by decide +kernel
theorem dX3_sheetOf_19 : decode cX3_sheetOf 19 = .ok (.areturn, 1) := by decide +kernel
theorem dX3_sheetAndWalkerFinding_0 : decode cX3_sheetAndWalkerFinding 0 = .ok (.aload_n 0, 1) := by decide +kernel
theorem dX3_sheetAndWalkerFinding_1 : decode cX3_sheetAndWalkerFinding 1 = .ok (.iload_n 1, 1) := by decide +kernel
theorem dX3_sheetAndWalkerFinding_2 : decode cX3_sheetAndWalkerFinding 2 = .ok (.invokevirtual 180, 3) := by decide +kernel
theorem dX3_sheetAndWalkerFinding_5 : decode cX3_sheetAndWalkerFinding 5 = .ok (.astore_n 3, 1) := by decide +kernel
theorem dX3_sheetAndWalkerFinding_6 : decode cX3_sheetAndWalkerFinding 6 = .ok (.aload_n 3, 1) := by decide +kernel
theorem dX3_sheetAndWalkerFinding_7 : decode cX3_sheetAndWalkerFinding 7 = .ok (.ifnonnull 6, 3) := by decide +kernel
theorem dX3_sheetAndWalkerFinding_10 : decode cX3_sheetAndWalkerFinding 10 = .ok (.ldc 45, 2) := by decide +kernel
theorem dX3_sheetAndWalkerFinding_12 : decode cX3_sheetAndWalkerFinding 12 = .ok (.ireturn, 1) := by decide +kernel
theorem dX3_sheetAndWalkerFinding_13 : decode cX3_sheetAndWalkerFinding 13 = .ok (.aload_n 3, 1) := by decide +kernel
theorem dX3_sheetAndWalkerFinding_14 : decode cX3_sheetAndWalkerFinding 14 = .ok (.invokevirtual 191, 3) := by decide +kernel
theorem dX3_sheetAndWalkerFinding_17 : decode cX3_sheetAndWalkerFinding 17 = .ok (.ifCond .eq 6, 3) := by decide +kernel
theorem dX3_sheetAndWalkerFinding_20 : decode cX3_sheetAndWalkerFinding 20 = .ok (.ldc 194, 2) := by decide +kernel
theorem dX3_sheetAndWalkerFinding_22 : decode cX3_sheetAndWalkerFinding 22 = .ok (.ireturn, 1) := by decide +kernel
theorem dX3_sheetAndWalkerFinding_23 : decode cX3_sheetAndWalkerFinding 23 = .ok (.aload_n 0, 1) := by decide +kernel
theorem dX3_sheetAndWalkerFinding_24 : decode cX3_sheetAndWalkerFinding 24 = .ok (.getfield 10, 3) := by decide +kernel
theorem dX3_sheetAndWalkerFinding_27 : decode cX3_sheetAndWalkerFinding 27 = .ok (.iload_n 2, 1) := by decide +kernel
theorem dX3_sheetAndWalkerFinding_28 : decode cX3_sheetAndWalkerFinding 28 = .ok (.invokevirtual 76, 3) := by decide +kernel
theorem dX3_sheetAndWalkerFinding_31 : decode cX3_sheetAndWalkerFinding 31 = .ok (.ifCond .eq 7, 3) := by decide +kernel
theorem dX3_sheetAndWalkerFinding_34 : decode cX3_sheetAndWalkerFinding 34 = .ok (.iconst 0, 1) := by decide +kernel
theorem dX3_sheetAndWalkerFinding_35 : decode cX3_sheetAndWalkerFinding 35 = .ok (.goto 5, 3) := by decide +kernel
theorem dX3_sheetAndWalkerFinding_38 : decode cX3_sheetAndWalkerFinding 38 = .ok (.ldc 45, 2) := by decide +kernel
theorem dX3_sheetAndWalkerFinding_40 : decode cX3_sheetAndWalkerFinding 40 = .ok (.ireturn, 1) := by decide +kernel
theorem dX3_trialGoesBy_0 : decode cX3_trialGoesBy 0 = .ok (.iconst 0, 1) := by decide +kernel
theorem dX3_trialGoesBy_1 : decode cX3_trialGoesBy 1 = .ok (.istore_n 3, 1) := by decide +kernel
theorem dX3_trialGoesBy_2 : decode cX3_trialGoesBy 2 = .ok (.iload_n 3, 1) := by decide +kernel
theorem dX3_trialGoesBy_3 : decode cX3_trialGoesBy 3 = .ok (.aload_n 1, 1) := by decide +kernel
theorem dX3_trialGoesBy_4 : decode cX3_trialGoesBy 4 = .ok (.getfield 188, 3) := by decide +kernel
theorem dX3_trialGoesBy_7 : decode cX3_trialGoesBy 7 = .ok (.if_icmp .ge 38, 3) := by decide +kernel
theorem dX3_trialGoesBy_10 : decode cX3_trialGoesBy 10 = .ok (.aload_n 1, 1) := by decide +kernel
theorem dX3_trialGoesBy_11 : decode cX3_trialGoesBy 11 = .ok (.getfield 195, 3) := by decide +kernel
theorem dX3_trialGoesBy_14 : decode cX3_trialGoesBy 14 = .ok (.iload_n 3, 1) := by decide +kernel
theorem dX3_trialGoesBy_15 : decode cX3_trialGoesBy 15 = .ok (.laload, 1) := by decide +kernel
theorem dX3_trialGoesBy_16 : decode cX3_trialGoesBy 16 = .ok (.aload_n 0, 1) := by decide +kernel
theorem dX3_trialGoesBy_17 : decode cX3_trialGoesBy 17 = .ok (.getfield 16, 3) := by decide +kernel
theorem dX3_trialGoesBy_20 : decode cX3_trialGoesBy 20 = .ok (.getfield 120, 3) := by decide +kernel
theorem dX3_trialGoesBy_23 : decode cX3_trialGoesBy 23 = .ok (.iload_n 2, 1) := by decide +kernel
theorem dX3_trialGoesBy_24 : decode cX3_trialGoesBy 24 = .ok (.iaload, 1) := by decide +kernel
theorem dX3_trialGoesBy_25 : decode cX3_trialGoesBy 25 = .ok (.i2l, 1) := by decide +kernel
theorem dX3_trialGoesBy_26 : decode cX3_trialGoesBy 26 = .ok (.lcmp, 1) := by decide +kernel
theorem dX3_trialGoesBy_27 : decode cX3_trialGoesBy 27 = .ok (.ifCond .eq 5, 3) := by decide +kernel
theorem dX3_trialGoesBy_30 : decode cX3_trialGoesBy 30 = .ok (.iconst 0, 1) := by decide +kernel
theorem dX3_trialGoesBy_31 : decode cX3_trialGoesBy 31 = .ok (.ireturn, 1) := by decide +kernel
theorem dX3_trialGoesBy_32 : decode cX3_trialGoesBy 32 = .ok (.aload_n 0, 1) := by decide +kernel
theorem dX3_trialGoesBy_33 : decode cX3_trialGoesBy 33 = .ok (.getfield 16, 3) := by decide +kernel
theorem dX3_trialGoesBy_36 : decode cX3_trialGoesBy 36 = .ok (.invokevirtual 223, 3) := by decide +kernel
theorem dX3_trialGoesBy_39 : decode cX3_trialGoesBy 39 = .ok (.iinc 3 1, 3) := by decide +kernel
theorem dX3_trialGoesBy_42 : decode cX3_trialGoesBy 42 = .ok (.goto (-40), 3) := by decide +kernel
theorem dX3_trialGoesBy_45 : decode cX3_trialGoesBy 45 = .ok (.iconst 1, 1) := by decide +kernel
theorem dX3_trialGoesBy_46 : decode cX3_trialGoesBy 46 = .ok (.ireturn, 1) := by decide +kernel
theorem dX3_firstFromNow_0 : decode cX3_firstFromNow 0 = .ok (.aload_n 0, 1) := by decide +kernel
theorem dX3_firstFromNow_1 : decode cX3_firstFromNow 1 = .ok (.getfield 16, 3) := by decide +kernel
theorem dX3_firstFromNow_4 : decode cX3_firstFromNow 4 = .ok (.aload_n 0, 1) := by decide +kernel
theorem dX3_firstFromNow_5 : decode cX3_firstFromNow 5 = .ok (.getfield 10, 3) := by decide +kernel
theorem dX3_firstFromNow_8 : decode cX3_firstFromNow 8 = .ok (.invokevirtual 148, 3) := by decide +kernel
theorem dX3_firstFromNow_11 : decode cX3_firstFromNow 11 = .ok (.aload_n 0, 1) := by decide +kernel
theorem dX3_firstFromNow_12 : decode cX3_firstFromNow 12 = .ok (.iload_n 1, 1) := by decide +kernel
theorem dX3_firstFromNow_13 : decode cX3_firstFromNow 13 = .ok (.iload_n 2, 1) := by decide +kernel
theorem dX3_firstFromNow_14 : decode cX3_firstFromNow 14 = .ok (.iload_n 3, 1) := by decide +kernel
theorem dX3_firstFromNow_15 : decode cX3_firstFromNow 15 = .ok (.bipush 100, 2) := by decide +kernel
theorem dX3_firstFromNow_17 : decode cX3_firstFromNow 17 = .ok (.invokevirtual 231, 3) := by decide +kernel
theorem dX3_firstFromNow_20 : decode cX3_firstFromNow 20 = .ok (.ireturn, 1) := by decide +kernel
theorem dX3_firstInTrial_0 : decode cX3_firstInTrial 0 = .ok (.iconst 0, 1) := by decide +kernel
theorem dX3_firstInTrial_1 : decode cX3_firstInTrial 1 = .ok (.istore 5, 2) := by decide +kernel
theorem dX3_firstInTrial_3 : decode cX3_firstInTrial 3 = .ok (.iload 5, 2) := by decide +kernel
theorem dX3_firstInTrial_5 : decode cX3_firstInTrial 5 = .ok (.iload 4, 2) := by decide +kernel
theorem dX3_firstInTrial_7 : decode cX3_firstInTrial 7 = .ok (.if_icmp .gt 36, 3) := by decide +kernel
theorem dX3_firstInTrial_10 : decode cX3_firstInTrial 10 = .ok (.aload_n 0, 1) := by decide +kernel
theorem dX3_firstInTrial_11 : decode cX3_firstInTrial 11 = .ok (.iload_n 1, 1) := by decide +kernel
theorem dX3_firstInTrial_12 : decode cX3_firstInTrial 12 = .ok (.iload_n 2, 1) := by decide +kernel
theorem dX3_firstInTrial_13 : decode cX3_firstInTrial 13 = .ok (.iload_n 3, 1) := by decide +kernel
theorem dX3_firstInTrial_14 : decode cX3_firstInTrial 14 = .ok (.invokevirtual 234, 3) := by decide +kernel
theorem dX3_firstInTrial_17 : decode cX3_firstInTrial 17 = .ok (.ifCond .eq 6, 3) := by decide +kernel
theorem dX3_firstInTrial_20 : decode cX3_firstInTrial 20 = .ok (.iload 5, 2) := by decide +kernel
theorem dX3_firstInTrial_22 : decode cX3_firstInTrial 22 = .ok (.ireturn, 1) := by decide +kernel
theorem dX3_firstInTrial_23 : decode cX3_firstInTrial 23 = .ok (.iload 5, 2) := by decide +kernel
theorem dX3_firstInTrial_25 : decode cX3_firstInTrial 25 = .ok (.iload 4, 2) := by decide +kernel
theorem dX3_firstInTrial_27 : decode cX3_firstInTrial 27 = .ok (.if_icmp .ge 10, 3) := by decide +kernel
theorem dX3_firstInTrial_30 : decode cX3_firstInTrial 30 = .ok (.aload_n 0, 1) := by decide +kernel
theorem dX3_firstInTrial_31 : decode cX3_firstInTrial 31 = .ok (.getfield 16, 3) := by decide +kernel
theorem dX3_firstInTrial_34 : decode cX3_firstInTrial 34 = .ok (.invokevirtual 223, 3) := by decide +kernel
theorem dX3_firstInTrial_37 : decode cX3_firstInTrial 37 = .ok (.iinc 5 1, 3) := by decide +kernel
theorem dX3_firstInTrial_40 : decode cX3_firstInTrial 40 = .ok (.goto (-37), 3) := by decide +kernel
theorem dX3_firstInTrial_43 : decode cX3_firstInTrial 43 = .ok (.iconst (-1), 1) := by decide +kernel
theorem dX3_firstInTrial_44 : decode cX3_firstInTrial 44 = .ok (.ireturn, 1) := by decide +kernel
theorem dX3_trialShows_0 : decode cX3_trialShows 0 = .ok (.iload_n 1, 1) := by decide +kernel
theorem dX3_trialShows_1 : decode cX3_trialShows 1 = .ok (.lookupswitch 80 #[(0, 27), (1, 71)], 27) := by decide +kernel
theorem dX3_trialShows_28 : decode cX3_trialShows 28 = .ok (.iload_n 3, 1) := by decide +kernel
theorem dX3_trialShows_29 : decode cX3_trialShows 29 = .ok (.bipush (-2), 2) := by decide +kernel
theorem dX3_trialShows_31 : decode cX3_trialShows 31 = .ok (.if_icmp .ne 22, 3) := by decide +kernel
theorem dX3_trialShows_34 : decode cX3_trialShows 34 = .ok (.aload_n 0, 1) := by decide +kernel
theorem dX3_trialShows_35 : decode cX3_trialShows 35 = .ok (.getfield 16, 3) := by decide +kernel
theorem dX3_trialShows_38 : decode cX3_trialShows 38 = .ok (.iload_n 2, 1) := by decide +kernel
theorem dX3_trialShows_39 : decode cX3_trialShows 39 = .ok (.invokevirtual 106, 3) := by decide +kernel
theorem dX3_trialShows_42 : decode cX3_trialShows 42 = .ok (.ifCond .ne 7, 3) := by decide +kernel
theorem dX3_trialShows_45 : decode cX3_trialShows 45 = .ok (.iconst 1, 1) := by decide +kernel
theorem dX3_trialShows_46 : decode cX3_trialShows 46 = .ok (.goto 25, 3) := by decide +kernel
theorem dX3_trialShows_49 : decode cX3_trialShows 49 = .ok (.iconst 0, 1) := by decide +kernel
theorem dX3_trialShows_50 : decode cX3_trialShows 50 = .ok (.goto 21, 3) := by decide +kernel
theorem dX3_trialShows_53 : decode cX3_trialShows 53 = .ok (.aload_n 0, 1) := by decide +kernel
theorem dX3_trialShows_54 : decode cX3_trialShows 54 = .ok (.getfield 16, 3) := by decide +kernel
theorem dX3_trialShows_57 : decode cX3_trialShows 57 = .ok (.getfield 110, 3) := by decide +kernel
theorem dX3_trialShows_60 : decode cX3_trialShows 60 = .ok (.iload_n 2, 1) := by decide +kernel
theorem dX3_trialShows_61 : decode cX3_trialShows 61 = .ok (.iaload, 1) := by decide +kernel
theorem dX3_trialShows_62 : decode cX3_trialShows 62 = .ok (.iload_n 3, 1) := by decide +kernel
theorem dX3_trialShows_63 : decode cX3_trialShows 63 = .ok (.if_icmp .ne 7, 3) := by decide +kernel
theorem dX3_trialShows_66 : decode cX3_trialShows 66 = .ok (.iconst 1, 1) := by decide +kernel
theorem dX3_trialShows_67 : decode cX3_trialShows 67 = .ok (.goto 4, 3) := by decide +kernel
theorem dX3_trialShows_70 : decode cX3_trialShows 70 = .ok (.iconst 0, 1) := by decide +kernel
theorem dX3_trialShows_71 : decode cX3_trialShows 71 = .ok (.ireturn, 1) := by decide +kernel
theorem dX3_trialShows_72 : decode cX3_trialShows 72 = .ok (.aload_n 0, 1) := by decide +kernel
theorem dX3_trialShows_73 : decode cX3_trialShows 73 = .ok (.getfield 16, 3) := by decide +kernel
theorem dX3_trialShows_76 : decode cX3_trialShows 76 = .ok (.iload_n 2, 1) := by decide +kernel
theorem dX3_trialShows_77 : decode cX3_trialShows 77 = .ok (.invokevirtual 106, 3) := by decide +kernel
theorem dX3_trialShows_80 : decode cX3_trialShows 80 = .ok (.ireturn, 1) := by decide +kernel
theorem dX3_trialShows_81 : decode cX3_trialShows 81 = .ok (.aload_n 0, 1) := by decide +kernel
theorem dX3_trialShows_82 : decode cX3_trialShows 82 = .ok (.getfield 16, 3) := by decide +kernel
theorem dX3_trialShows_85 : decode cX3_trialShows 85 = .ok (.iload_n 2, 1) := by decide +kernel
theorem dX3_trialShows_86 : decode cX3_trialShows 86 = .ok (.invokevirtual 238, 3) := by decide +kernel
theorem dX3_trialShows_89 : decode cX3_trialShows 89 = .ok (.ireturn, 1) := by decide +kernel
theorem dX3_suppose_0 : decode cX3_suppose 0 = .ok (.aload_n 0, 1) := by decide +kernel
theorem dX3_suppose_1 : decode cX3_suppose 1 = .ok (.getfield 16, 3) := by decide +kernel
theorem dX3_suppose_4 : decode cX3_suppose 4 = .ok (.aload_n 0, 1) := by decide +kernel
theorem dX3_suppose_5 : decode cX3_suppose 5 = .ok (.getfield 10, 3) := by decide +kernel
theorem dX3_suppose_8 : decode cX3_suppose 8 = .ok (.invokevirtual 148, 3) := by decide +kernel
theorem dX3_suppose_11 : decode cX3_suppose 11 = .ok (.iload_n 1, 1) := by decide +kernel
theorem dX3_suppose_12 : decode cX3_suppose 12 = .ok (.tableswitch 131 0 5 #[40, 53, 74, 87, 100, 113], 40) := by decide +kernel
theorem dX3_suppose_52 : decode cX3_suppose 52 = .ok (.aload_n 0, 1) := by decide +kernel
theorem dX3_suppose_53 : decode cX3_suppose 53 = .ok (.getfield 16, 3) := by decide +kernel
theorem dX3_suppose_56 : decode cX3_suppose 56 = .ok (.getfield 92, 3) := by decide +kernel
theorem dX3_suppose_59 : decode cX3_suppose 59 = .ok (.iload_n 3, 1) := by decide +kernel
theorem dX3_suppose_60 : decode cX3_suppose 60 = .ok (.iload_n 2, 1) := by decide +kernel
theorem dX3_suppose_61 : decode cX3_suppose 61 = .ok (.iastore, 1) := by decide +kernel
theorem dX3_suppose_62 : decode cX3_suppose 62 = .ok (.goto 89, 3) := by decide +kernel
theorem dX3_suppose_65 : decode cX3_suppose 65 = .ok (.aload_n 0, 1) := by decide +kernel
theorem dX3_suppose_66 : decode cX3_suppose 66 = .ok (.getfield 16, 3) := by decide +kernel
theorem dX3_suppose_69 : decode cX3_suppose 69 = .ok (.iload_n 3, 1) := by decide +kernel
theorem dX3_suppose_70 : decode cX3_suppose 70 = .ok (.invokevirtual 113, 3) := by decide +kernel
theorem dX3_suppose_73 : decode cX3_suppose 73 = .ok (.aload_n 0, 1) := by decide +kernel
theorem dX3_suppose_74 : decode cX3_suppose 74 = .ok (.getfield 16, 3) := by decide +kernel
theorem dX3_suppose_77 : decode cX3_suppose 77 = .ok (.getfield 120, 3) := by decide +kernel
theorem dX3_suppose_80 : decode cX3_suppose 80 = .ok (.iload_n 3, 1) := by decide +kernel
theorem dX3_suppose_81 : decode cX3_suppose 81 = .ok (.iload_n 2, 1) := by decide +kernel
theorem dX3_suppose_82 : decode cX3_suppose 82 = .ok (.iastore, 1) := by decide +kernel
theorem dX3_suppose_83 : decode cX3_suppose 83 = .ok (.goto 68, 3) := by decide +kernel
theorem dX3_suppose_86 : decode cX3_suppose 86 = .ok (.aload_n 0, 1) := by decide +kernel
theorem dX3_suppose_87 : decode cX3_suppose 87 = .ok (.getfield 16, 3) := by decide +kernel
theorem dX3_suppose_90 : decode cX3_suppose 90 = .ok (.getfield 98, 3) := by decide +kernel
theorem dX3_suppose_93 : decode cX3_suppose 93 = .ok (.iload_n 3, 1) := by decide +kernel
theorem dX3_suppose_94 : decode cX3_suppose 94 = .ok (.iload_n 2, 1) := by decide +kernel
theorem dX3_suppose_95 : decode cX3_suppose 95 = .ok (.iastore, 1) := by decide +kernel
theorem dX3_suppose_96 : decode cX3_suppose 96 = .ok (.goto 55, 3) := by decide +kernel
theorem dX3_suppose_99 : decode cX3_suppose 99 = .ok (.aload_n 0, 1) := by decide +kernel
theorem dX3_suppose_100 : decode cX3_suppose 100 = .ok (.getfield 16, 3) := by decide +kernel
theorem dX3_suppose_103 : decode cX3_suppose 103 = .ok (.iconst 1, 1) := by decide +kernel
theorem dX3_suppose_104 : decode cX3_suppose 104 = .ok (.iload_n 2, 1) := by decide +kernel
theorem dX3_suppose_105 : decode cX3_suppose 105 = .ok (.ishl, 1) := by decide +kernel
theorem dX3_suppose_106 : decode cX3_suppose 106 = .ok (.putfield 50, 3) := by decide +kernel
theorem dX3_suppose_109 : decode cX3_suppose 109 = .ok (.goto 42, 3) := by decide +kernel
theorem dX3_suppose_112 : decode cX3_suppose 112 = .ok (.aload_n 0, 1) := by decide +kernel
theorem dX3_suppose_113 : decode cX3_suppose 113 = .ok (.getfield 16, 3) := by decide +kernel
theorem dX3_suppose_116 : decode cX3_suppose 116 = .ok (.getfield 95, 3) := by decide +kernel
theorem dX3_suppose_119 : decode cX3_suppose 119 = .ok (.iload_n 3, 1) := by decide +kernel
theorem dX3_suppose_120 : decode cX3_suppose 120 = .ok (.iload_n 2, 1) := by decide +kernel
theorem dX3_suppose_121 : decode cX3_suppose 121 = .ok (.iastore, 1) := by decide +kernel
theorem dX3_suppose_122 : decode cX3_suppose 122 = .ok (.goto 29, 3) := by decide +kernel
theorem dX3_suppose_125 : decode cX3_suppose 125 = .ok (.aload_n 0, 1) := by decide +kernel
theorem dX3_suppose_126 : decode cX3_suppose 126 = .ok (.getfield 16, 3) := by decide +kernel
theorem dX3_suppose_129 : decode cX3_suppose 129 = .ok (.dup, 1) := by decide +kernel
theorem dX3_suppose_130 : decode cX3_suppose 130 = .ok (.getfield 50, 3) := by decide +kernel
theorem dX3_suppose_133 : decode cX3_suppose 133 = .ok (.iconst 1, 1) := by decide +kernel
theorem dX3_suppose_134 : decode cX3_suppose 134 = .ok (.iload_n 2, 1) := by decide +kernel
theorem dX3_suppose_135 : decode cX3_suppose 135 = .ok (.ishl, 1) := by decide +kernel
theorem dX3_suppose_136 : decode cX3_suppose 136 = .ok (.ior, 1) := by decide +kernel
theorem dX3_suppose_137 : decode cX3_suppose 137 = .ok (.putfield 50, 3) := by decide +kernel
theorem dX3_suppose_140 : decode cX3_suppose 140 = .ok (.goto 11, 3) := by decide +kernel
theorem dX3_suppose_143 : decode cX3_suppose 143 = .ok (.aload_n 0, 1) := by decide +kernel
theorem dX3_suppose_144 : decode cX3_suppose 144 = .ok (.getfield 16, 3) := by decide +kernel
theorem dX3_suppose_147 : decode cX3_suppose 147 = .ok (.iload_n 2, 1) := by decide +kernel
theorem dX3_suppose_148 : decode cX3_suppose 148 = .ok (.putfield 58, 3) := by decide +kernel
theorem dX3_suppose_151 : decode cX3_suppose 151 = .ok (.return_, 1) := by decide +kernel
theorem dX3_soonestChoice_0 : decode cX3_soonestChoice 0 = .ok (.iconst (-1), 1) := by decide +kernel
theorem dX3_soonestChoice_1 : decode cX3_soonestChoice 1 = .ok (.istore 6, 2) := by decide +kernel
theorem dX3_soonestChoice_3 : decode cX3_soonestChoice 3 = .ok (.iload_n 3, 1) := by decide +kernel
theorem dX3_soonestChoice_4 : decode cX3_soonestChoice 4 = .ok (.istore 7, 2) := by decide +kernel
theorem dX3_soonestChoice_6 : decode cX3_soonestChoice 6 = .ok (.iconst 0, 1) := by decide +kernel
theorem dX3_soonestChoice_7 : decode cX3_soonestChoice 7 = .ok (.istore 8, 2) := by decide +kernel
theorem dX3_soonestChoice_9 : decode cX3_soonestChoice 9 = .ok (.iload 8, 2) := by decide +kernel
theorem dX3_soonestChoice_11 : decode cX3_soonestChoice 11 = .ok (.iload_n 2, 1) := by decide +kernel
theorem dX3_soonestChoice_12 : decode cX3_soonestChoice 12 = .ok (.if_icmp .ge 51, 3) := by decide +kernel
theorem dX3_soonestChoice_15 : decode cX3_soonestChoice 15 = .ok (.iload 7, 2) := by decide +kernel
theorem dX3_soonestChoice_17 : decode cX3_soonestChoice 17 = .ok (.ifCond .lt 46, 3) := by decide +kernel
theorem dX3_soonestChoice_20 : decode cX3_soonestChoice 20 = .ok (.aload_n 0, 1) := by decide +kernel
theorem dX3_soonestChoice_21 : decode cX3_soonestChoice 21 = .ok (.iload_n 1, 1) := by decide +kernel
theorem dX3_soonestChoice_22 : decode cX3_soonestChoice 22 = .ok (.iload 8, 2) := by decide +kernel
theorem dX3_soonestChoice_24 : decode cX3_soonestChoice 24 = .ok (.iload 4, 2) := by decide +kernel
theorem dX3_soonestChoice_26 : decode cX3_soonestChoice 26 = .ok (.invokevirtual 241, 3) := by decide +kernel
theorem dX3_soonestChoice_29 : decode cX3_soonestChoice 29 = .ok (.aload_n 0, 1) := by decide +kernel
theorem dX3_soonestChoice_30 : decode cX3_soonestChoice 30 = .ok (.iconst 0, 1) := by decide +kernel
theorem dX3_soonestChoice_31 : decode cX3_soonestChoice 31 = .ok (.iload 4, 2) := by decide +kernel
theorem dX3_soonestChoice_33 : decode cX3_soonestChoice 33 = .ok (.iload 5, 2) := by decide +kernel
theorem dX3_soonestChoice_35 : decode cX3_soonestChoice 35 = .ok (.iload 7, 2) := by decide +kernel
theorem dX3_soonestChoice_37 : decode cX3_soonestChoice 37 = .ok (.invokevirtual 231, 3) := by decide +kernel
theorem dX3_soonestChoice_40 : decode cX3_soonestChoice 40 = .ok (.istore 9, 2) := by decide +kernel
theorem dX3_soonestChoice_42 : decode cX3_soonestChoice 42 = .ok (.iload 9, 2) := by decide +kernel
theorem dX3_soonestChoice_44 : decode cX3_soonestChoice 44 = .ok (.ifCond .lt 13, 3) := by decide +kernel
theorem dX3_soonestChoice_47 : decode cX3_soonestChoice 47 = .ok (.iload 8, 2) := by decide +kernel
theorem dX3_soonestChoice_49 : decode cX3_soonestChoice 49 = .ok (.istore 6, 2) := by decide +kernel
theorem dX3_soonestChoice_51 : decode cX3_soonestChoice 51 = .ok (.iload 9, 2) := by decide +kernel
theorem dX3_soonestChoice_53 : decode cX3_soonestChoice 53 = .ok (.iconst 1, 1) := by decide +kernel
theorem dX3_soonestChoice_54 : decode cX3_soonestChoice 54 = .ok (.isub, 1) := by decide +kernel
theorem dX3_soonestChoice_55 : decode cX3_soonestChoice 55 = .ok (.istore 7, 2) := by decide +kernel
theorem dX3_soonestChoice_57 : decode cX3_soonestChoice 57 = .ok (.iinc 8 1, 3) := by decide +kernel
theorem dX3_soonestChoice_60 : decode cX3_soonestChoice 60 = .ok (.goto (-51), 3) := by decide +kernel
theorem dX3_soonestChoice_63 : decode cX3_soonestChoice 63 = .ok (.iload 6, 2) := by decide +kernel
theorem dX3_soonestChoice_65 : decode cX3_soonestChoice 65 = .ok (.ireturn, 1) := by decide +kernel
theorem dX3_fullestChoice_0 : decode cX3_fullestChoice 0 = .ok (.iconst 0, 1) := by decide +kernel
theorem dX3_fullestChoice_1 : decode cX3_fullestChoice 1 = .ok (.istore 5, 2) := by decide +kernel
theorem dX3_fullestChoice_3 : decode cX3_fullestChoice 3 = .ok (.iconst (-1), 1) := by decide +kernel
theorem dX3_fullestChoice_4 : decode cX3_fullestChoice 4 = .ok (.istore 6, 2) := by decide +kernel
theorem dX3_fullestChoice_6 : decode cX3_fullestChoice 6 = .ok (.iconst 0, 1) := by decide +kernel
theorem dX3_fullestChoice_7 : decode cX3_fullestChoice 7 = .ok (.istore 7, 2) := by decide +kernel
theorem dX3_fullestChoice_9 : decode cX3_fullestChoice 9 = .ok (.iload 7, 2) := by decide +kernel
theorem dX3_fullestChoice_11 : decode cX3_fullestChoice 11 = .ok (.iload_n 2, 1) := by decide +kernel
theorem dX3_fullestChoice_12 : decode cX3_fullestChoice 12 = .ok (.if_icmp .ge 80, 3) := by decide +kernel
theorem dX3_fullestChoice_15 : decode cX3_fullestChoice 15 = .ok (.iload 6, 2) := by decide +kernel
theorem dX3_fullestChoice_17 : decode cX3_fullestChoice 17 = .ok (.aload_n 0, 1) := by decide +kernel
theorem dX3_fullestChoice_18 : decode cX3_fullestChoice 18 = .ok (.getfield 10, 3) := by decide +kernel
theorem dX3_fullestChoice_21 : decode cX3_fullestChoice 21 = .ok (.getfield 215, 3) := by decide +kernel
theorem dX3_fullestChoice_24 : decode cX3_fullestChoice 24 = .ok (.if_icmp .ge 68, 3) := by decide +kernel
theorem dX3_fullestChoice_27 : decode cX3_fullestChoice 27 = .ok (.aload_n 0, 1) := by decide +kernel
theorem dX3_fullestChoice_28 : decode cX3_fullestChoice 28 = .ok (.iload_n 1, 1) := by decide +kernel
theorem dX3_fullestChoice_29 : decode cX3_fullestChoice 29 = .ok (.iload 7, 2) := by decide +kernel
theorem dX3_fullestChoice_31 : decode cX3_fullestChoice 31 = .ok (.iload 4, 2) := by decide +kernel
theorem dX3_fullestChoice_33 : decode cX3_fullestChoice 33 = .ok (.invokevirtual 241, 3) := by decide +kernel
theorem dX3_fullestChoice_36 : decode cX3_fullestChoice 36 = .ok (.aload_n 0, 1) := by decide +kernel
theorem dX3_fullestChoice_37 : decode cX3_fullestChoice 37 = .ok (.getfield 16, 3) := by decide +kernel
theorem dX3_fullestChoice_40 : decode cX3_fullestChoice 40 = .ok (.iload_n 3, 1) := by decide +kernel
theorem dX3_fullestChoice_41 : decode cX3_fullestChoice 41 = .ok (.invokevirtual 139, 3) := by decide +kernel
theorem dX3_fullestChoice_44 : decode cX3_fullestChoice 44 = .ok (.iload_n 1, 1) := by decide +kernel
theorem dX3_fullestChoice_45 : decode cX3_fullestChoice 45 = .ok (.iconst 4, 1) := by decide +kernel
theorem dX3_fullestChoice_46 : decode cX3_fullestChoice 46 = .ok (.if_icmp .ne 13, 3) := by decide +kernel
theorem dX3_fullestChoice_49 : decode cX3_fullestChoice 49 = .ok (.aload_n 0, 1) := by decide +kernel
theorem dX3_fullestChoice_50 : decode cX3_fullestChoice 50 = .ok (.getfield 16, 3) := by decide +kernel
theorem dX3_fullestChoice_53 : decode cX3_fullestChoice 53 = .ok (.invokevirtual 145, 3) := by decide +kernel
theorem dX3_fullestChoice_56 : decode cX3_fullestChoice 56 = .ok (.goto 10, 3) := by decide +kernel
theorem dX3_fullestChoice_59 : decode cX3_fullestChoice 59 = .ok (.aload_n 0, 1) := by decide +kernel
theorem dX3_fullestChoice_60 : decode cX3_fullestChoice 60 = .ok (.getfield 16, 3) := by decide +kernel
theorem dX3_fullestChoice_63 : decode cX3_fullestChoice 63 = .ok (.invokevirtual 126, 3) := by decide +kernel
theorem dX3_fullestChoice_66 : decode cX3_fullestChoice 66 = .ok (.invokestatic 130, 3) := by decide +kernel
theorem dX3_fullestChoice_69 : decode cX3_fullestChoice 69 = .ok (.istore 8, 2) := by decide +kernel
theorem dX3_fullestChoice_71 : decode cX3_fullestChoice 71 = .ok (.iload 8, 2) := by decide +kernel
theorem dX3_fullestChoice_73 : decode cX3_fullestChoice 73 = .ok (.iload 6, 2) := by decide +kernel
theorem dX3_fullestChoice_75 : decode cX3_fullestChoice 75 = .ok (.if_icmp .le 11, 3) := by decide +kernel
theorem dX3_fullestChoice_78 : decode cX3_fullestChoice 78 = .ok (.iload 7, 2) := by decide +kernel
theorem dX3_fullestChoice_80 : decode cX3_fullestChoice 80 = .ok (.istore 5, 2) := by decide +kernel
theorem dX3_fullestChoice_82 : decode cX3_fullestChoice 82 = .ok (.iload 8, 2) := by decide +kernel
theorem dX3_fullestChoice_84 : decode cX3_fullestChoice 84 = .ok (.istore 6, 2) := by decide +kernel
theorem dX3_fullestChoice_86 : decode cX3_fullestChoice 86 = .ok (.iinc 7 1, 3) := by decide +kernel
theorem dX3_fullestChoice_89 : decode cX3_fullestChoice 89 = .ok (.goto (-80), 3) := by decide +kernel
theorem dX3_fullestChoice_92 : decode cX3_fullestChoice 92 = .ok (.iload 5, 2) := by decide +kernel
theorem dX3_fullestChoice_94 : decode cX3_fullestChoice 94 = .ok (.ireturn, 1) := by decide +kernel
theorem dX3_isCell_0 : decode cX3_isCell 0 = .ok (.iload_n 0, 1) := by decide +kernel
theorem dX3_isCell_1 : decode cX3_isCell 1 = .ok (.ifCond .lt 13, 3) := by decide +kernel
theorem dX3_isCell_4 : decode cX3_isCell 4 = .ok (.iload_n 0, 1) := by decide +kernel
theorem dX3_isCell_5 : decode cX3_isCell 5 = .ok (.bipush 36, 2) := by decide +kernel
theorem dX3_isCell_7 : decode cX3_isCell 7 = .ok (.if_icmp .ge 7, 3) := by decide +kernel
theorem dX3_isCell_10 : decode cX3_isCell 10 = .ok (.iconst 1, 1) := by decide +kernel
theorem dX3_isCell_11 : decode cX3_isCell 11 = .ok (.goto 4, 3) := by decide +kernel
theorem dX3_isCell_14 : decode cX3_isCell 14 = .ok (.iconst 0, 1) := by decide +kernel
theorem dX3_isCell_15 : decode cX3_isCell 15 = .ok (.ireturn, 1) := by decide +kernel
theorem dX3_isKind_0 : decode cX3_isKind 0 = .ok (.iload_n 0, 1) := by decide +kernel
theorem dX3_isKind_1 : decode cX3_isKind 1 = .ok (.ifCond .lt 13, 3) := by decide +kernel
theorem dX3_isKind_4 : decode cX3_isKind 4 = .ok (.iload_n 0, 1) := by decide +kernel
theorem dX3_isKind_5 : decode cX3_isKind 5 = .ok (.bipush 6, 2) := by decide +kernel
theorem dX3_isKind_7 : decode cX3_isKind 7 = .ok (.if_icmp .ge 7, 3) := by decide +kernel
theorem dX3_isKind_10 : decode cX3_isKind 10 = .ok (.iconst 1, 1) := by decide +kernel
theorem dX3_isKind_11 : decode cX3_isKind 11 = .ok (.goto 4, 3) := by decide +kernel
theorem dX3_isKind_14 : decode cX3_isKind 14 = .ok (.iconst 0, 1) := by decide +kernel
theorem dX3_isKind_15 : decode cX3_isKind 15 = .ok (.ireturn, 1) := by decide +kernel
theorem dX3_isOrIsUnder_0 : decode cX3_isOrIsUnder 0 = .ok (.iload_n 0, 1) := by decide +kernel
theorem dX3_isOrIsUnder_1 : decode cX3_isOrIsUnder 1 = .ok (.istore_n 2, 1) := by decide +kernel
theorem dX3_isOrIsUnder_2 : decode cX3_isOrIsUnder 2 = .ok (.iconst 0, 1) := by decide +kernel
theorem dX3_isOrIsUnder_3 : decode cX3_isOrIsUnder 3 = .ok (.istore_n 3, 1) := by decide +kernel
theorem dX3_isOrIsUnder_4 : decode cX3_isOrIsUnder 4 = .ok (.iload_n 3, 1) := by decide +kernel
theorem dX3_isOrIsUnder_5 : decode cX3_isOrIsUnder 5 = .ok (.bipush 6, 2) := by decide +kernel
theorem dX3_isOrIsUnder_7 : decode cX3_isOrIsUnder 7 = .ok (.if_icmp .ge 29, 3) := by decide +kernel
theorem dX3_isOrIsUnder_10 : decode cX3_isOrIsUnder 10 = .ok (.iload_n 2, 1) := by decide +kernel
theorem dX3_isOrIsUnder_11 : decode cX3_isOrIsUnder 11 = .ok (.invokestatic 64, 3) := by decide +kernel
theorem dX3_isOrIsUnder_14 : decode cX3_isOrIsUnder 14 = .ok (.ifCond .eq 22, 3) := by decide +kernel
theorem dX3_isOrIsUnder_17 : decode cX3_isOrIsUnder 17 = .ok (.iload_n 2, 1) := by decide +kernel
theorem dX3_isOrIsUnder_18 : decode cX3_isOrIsUnder 18 = .ok (.iload_n 1, 1) := by decide +kernel
theorem dX3_isOrIsUnder_19 : decode cX3_isOrIsUnder 19 = .ok (.if_icmp .ne 5, 3) := by decide +kernel
theorem dX3_isOrIsUnder_22 : decode cX3_isOrIsUnder 22 = .ok (.iconst 1, 1) := by decide +kernel
theorem dX3_isOrIsUnder_23 : decode cX3_isOrIsUnder 23 = .ok (.ireturn, 1) := by decide +kernel
theorem dX3_isOrIsUnder_24 : decode cX3_isOrIsUnder 24 = .ok (.getstatic 245, 3) := by decide +kernel
theorem dX3_isOrIsUnder_27 : decode cX3_isOrIsUnder 27 = .ok (.iload_n 2, 1) := by decide +kernel
theorem dX3_isOrIsUnder_28 : decode cX3_isOrIsUnder 28 = .ok (.iaload, 1) := by decide +kernel
theorem dX3_isOrIsUnder_29 : decode cX3_isOrIsUnder 29 = .ok (.istore_n 2, 1) := by decide +kernel
theorem dX3_isOrIsUnder_30 : decode cX3_isOrIsUnder 30 = .ok (.iinc 3 1, 3) := by decide +kernel
theorem dX3_isOrIsUnder_33 : decode cX3_isOrIsUnder 33 = .ok (.goto (-29), 3) := by decide +kernel
theorem dX3_isOrIsUnder_36 : decode cX3_isOrIsUnder 36 = .ok (.iconst 0, 1) := by decide +kernel
theorem dX3_isOrIsUnder_37 : decode cX3_isOrIsUnder 37 = .ok (.ireturn, 1) := by decide +kernel
theorem dX3_valuesOf_0 : decode cX3_valuesOf 0 = .ok (.iload_n 0, 1) := by decide +kernel
theorem dX3_valuesOf_1 : decode cX3_valuesOf 1 = .ok (.tableswitch 32 1 3 #[27, 27, 30], 27) := by decide +kernel
theorem dX3_valuesOf_28 : decode cX3_valuesOf 28 = .ok (.bipush 36, 2) := by decide +kernel
theorem dX3_valuesOf_30 : decode cX3_valuesOf 30 = .ok (.ireturn, 1) := by decide +kernel
theorem dX3_valuesOf_31 : decode cX3_valuesOf 31 = .ok (.iconst 4, 1) := by decide +kernel
theorem dX3_valuesOf_32 : decode cX3_valuesOf 32 = .ok (.ireturn, 1) := by decide +kernel
theorem dX3_valuesOf_33 : decode cX3_valuesOf 33 = .ok (.bipush 16, 2) := by decide +kernel
theorem dX3_valuesOf_35 : decode cX3_valuesOf 35 = .ok (.ireturn, 1) := by decide +kernel
theorem dX3_widowSteps_0 : decode cX3_widowSteps 0 = .ok (.iload_n 0, 1) := by decide +kernel
theorem dX3_widowSteps_1 : decode cX3_widowSteps 1 = .ok (.iconst 2, 1) := by decide +kernel
theorem dX3_widowSteps_2 : decode cX3_widowSteps 2 = .ok (.irem, 1) := by decide +kernel
theorem dX3_widowSteps_3 : decode cX3_widowSteps 3 = .ok (.ifCond .ne 7, 3) := by decide +kernel
theorem dX3_widowSteps_6 : decode cX3_widowSteps 6 = .ok (.iconst 1, 1) := by decide +kernel
theorem dX3_widowSteps_7 : decode cX3_widowSteps 7 = .ok (.goto 4, 3) := by decide +kernel
theorem dX3_widowSteps_10 : decode cX3_widowSteps 10 = .ok (.iconst 0, 1) := by decide +kernel
theorem dX3_widowSteps_11 : decode cX3_widowSteps 11 = .ok (.ireturn, 1) := by decide +kernel
theorem dX3_everyThird_0 : decode cX3_everyThird 0 = .ok (.iload_n 0, 1) := by decide +kernel
theorem dX3_everyThird_1 : decode cX3_everyThird 1 = .ok (.iconst 3, 1) := by decide +kernel
theorem dX3_everyThird_2 : decode cX3_everyThird 2 = .ok (.irem, 1) := by decide +kernel
theorem dX3_everyThird_3 : decode cX3_everyThird 3 = .ok (.ifCond .ne 7, 3) := by decide +kernel
theorem dX3_everyThird_6 : decode cX3_everyThird 6 = .ok (.iconst 1, 1) := by decide +kernel
theorem dX3_everyThird_7 : decode cX3_everyThird 7 = .ok (.goto 4, 3) := by decide +kernel
theorem dX3_everyThird_10 : decode cX3_everyThird 10 = .ok (.iconst 0, 1) := by decide +kernel
theorem dX3_everyThird_11 : decode cX3_everyThird 11 = .ok (.ireturn, 1) := by decide +kernel
theorem dX3_stepsOf_0 : decode cX3_stepsOf 0 = .ok (.iload_n 0, 1) := by decide +kernel
theorem dX3_stepsOf_1 : decode cX3_stepsOf 1 = .ok (.tableswitch 50 2 5 #[31, 36, 38, 40], 31) := by decide +kernel
theorem dX3_stepsOf_32 : decode cX3_stepsOf 32 = .ok (.iload_n 1, 1) := by decide +kernel
theorem dX3_stepsOf_33 : decode cX3_stepsOf 33 = .ok (.invokestatic 248, 3) := by decide +kernel
theorem dX3_stepsOf_36 : decode cX3_stepsOf 36 = .ok (.ireturn, 1) := by decide +kernel
theorem dX3_stepsOf_37 : decode cX3_stepsOf 37 = .ok (.iconst 0, 1) := by decide +kernel
theorem dX3_stepsOf_38 : decode cX3_stepsOf 38 = .ok (.ireturn, 1) := by decide +kernel
theorem dX3_stepsOf_39 : decode cX3_stepsOf 39 = .ok (.iconst 2, 1) := by decide +kernel
theorem dX3_stepsOf_40 : decode cX3_stepsOf 40 = .ok (.ireturn, 1) := by decide +kernel
theorem dX3_stepsOf_41 : decode cX3_stepsOf 41 = .ok (.iload_n 1, 1) := by decide +kernel
theorem dX3_stepsOf_42 : decode cX3_stepsOf 42 = .ok (.invokestatic 248, 3) := by decide +kernel
theorem dX3_stepsOf_45 : decode cX3_stepsOf 45 = .ok (.iload_n 1, 1) := by decide +kernel
theorem dX3_stepsOf_46 : decode cX3_stepsOf 46 = .ok (.invokestatic 251, 3) := by decide +kernel
theorem dX3_stepsOf_49 : decode cX3_stepsOf 49 = .ok (.iadd, 1) := by decide +kernel
theorem dX3_stepsOf_50 : decode cX3_stepsOf 50 = .ok (.ireturn, 1) := by decide +kernel
theorem dX3_stepsOf_51 : decode cX3_stepsOf 51 = .ok (.iconst 1, 1) := by decide +kernel
theorem dX3_stepsOf_52 : decode cX3_stepsOf 52 = .ok (.ireturn, 1) := by decide +kernel
theorem dX3_turnsOf_0 : decode cX3_turnsOf 0 = .ok (.iload_n 0, 1) := by decide +kernel
theorem dX3_turnsOf_1 : decode cX3_turnsOf 1 = .ok (.tableswitch 55 1 5 #[35, 55, 40, 35, 42], 35) := by decide +kernel
theorem dX3_turnsOf_36 : decode cX3_turnsOf 36 = .ok (.iload_n 1, 1) := by decide +kernel
theorem dX3_turnsOf_37 : decode cX3_turnsOf 37 = .ok (.invokestatic 251, 3) := by decide +kernel
theorem dX3_turnsOf_40 : decode cX3_turnsOf 40 = .ok (.ireturn, 1) := by decide +kernel
theorem dX3_turnsOf_41 : decode cX3_turnsOf 41 = .ok (.iconst 1, 1) := by decide +kernel
theorem dX3_turnsOf_42 : decode cX3_turnsOf 42 = .ok (.ireturn, 1) := by decide +kernel
theorem dX3_turnsOf_43 : decode cX3_turnsOf 43 = .ok (.iload_n 1, 1) := by decide +kernel
theorem dX3_turnsOf_44 : decode cX3_turnsOf 44 = .ok (.iconst 4, 1) := by decide +kernel
theorem dX3_turnsOf_45 : decode cX3_turnsOf 45 = .ok (.irem, 1) := by decide +kernel
theorem dX3_turnsOf_46 : decode cX3_turnsOf 46 = .ok (.iconst 1, 1) := by decide +kernel
theorem dX3_turnsOf_47 : decode cX3_turnsOf 47 = .ok (.if_icmp .ne 7, 3) := by decide +kernel
theorem dX3_turnsOf_50 : decode cX3_turnsOf 50 = .ok (.iconst 2, 1) := by decide +kernel
theorem dX3_turnsOf_51 : decode cX3_turnsOf 51 = .ok (.goto 4, 3) := by decide +kernel
theorem dX3_turnsOf_54 : decode cX3_turnsOf 54 = .ok (.iconst 0, 1) := by decide +kernel
theorem dX3_turnsOf_55 : decode cX3_turnsOf 55 = .ok (.ireturn, 1) := by decide +kernel
theorem dX3_turnsOf_56 : decode cX3_turnsOf 56 = .ok (.iconst 0, 1) := by decide +kernel
theorem dX3_turnsOf_57 : decode cX3_turnsOf 57 = .ok (.ireturn, 1) := by decide +kernel
theorem dX3_cellTowards_0 : decode cX3_cellTowards 0 = .ok (.iload_n 1, 1) := by decide +kernel
theorem dX3_cellTowards_1 : decode cX3_cellTowards 1 = .ok (.tableswitch 73 0 2 #[27, 42, 58], 27) := by decide +kernel
theorem dX3_cellTowards_28 : decode cX3_cellTowards 28 = .ok (.iload_n 0, 1) := by decide +kernel
theorem dX3_cellTowards_29 : decode cX3_cellTowards 29 = .ok (.bipush 6, 2) := by decide +kernel
theorem dX3_cellTowards_31 : decode cX3_cellTowards 31 = .ok (.if_icmp .lt 10, 3) := by decide +kernel
theorem dX3_cellTowards_34 : decode cX3_cellTowards 34 = .ok (.iload_n 0, 1) := by decide +kernel
theorem dX3_cellTowards_35 : decode cX3_cellTowards 35 = .ok (.bipush 6, 2) := by decide +kernel
theorem dX3_cellTowards_37 : decode cX3_cellTowards 37 = .ok (.isub, 1) := by decide +kernel
theorem dX3_cellTowards_38 : decode cX3_cellTowards 38 = .ok (.goto 4, 3) := by decide +kernel
theorem dX3_cellTowards_41 : decode cX3_cellTowards 41 = .ok (.iconst (-1), 1) := by decide +kernel
theorem dX3_cellTowards_42 : decode cX3_cellTowards 42 = .ok (.ireturn, 1) := by decide +kernel
theorem dX3_cellTowards_43 : decode cX3_cellTowards 43 = .ok (.iload_n 0, 1) := by decide +kernel
theorem dX3_cellTowards_44 : decode cX3_cellTowards 44 = .ok (.bipush 6, 2) := by decide +kernel
theorem dX3_cellTowards_46 : decode cX3_cellTowards 46 = .ok (.irem, 1) := by decide +kernel
theorem dX3_cellTowards_47 : decode cX3_cellTowards 47 = .ok (.iconst 5, 1) := by decide +kernel
theorem dX3_cellTowards_48 : decode cX3_cellTowards 48 = .ok (.if_icmp .ge 9, 3) := by decide +kernel
theorem dX3_cellTowards_51 : decode cX3_cellTowards 51 = .ok (.iload_n 0, 1) := by decide +kernel
theorem dX3_cellTowards_52 : decode cX3_cellTowards 52 = .ok (.iconst 1, 1) := by decide +kernel
theorem dX3_cellTowards_53 : decode cX3_cellTowards 53 = .ok (.iadd, 1) := by decide +kernel
theorem dX3_cellTowards_54 : decode cX3_cellTowards 54 = .ok (.goto 4, 3) := by decide +kernel
theorem dX3_cellTowards_57 : decode cX3_cellTowards 57 = .ok (.iconst (-1), 1) := by decide +kernel
theorem dX3_cellTowards_58 : decode cX3_cellTowards 58 = .ok (.ireturn, 1) := by decide +kernel
theorem dX3_cellTowards_59 : decode cX3_cellTowards 59 = .ok (.iload_n 0, 1) := by decide +kernel
theorem dX3_cellTowards_60 : decode cX3_cellTowards 60 = .ok (.bipush 30, 2) := by decide +kernel
theorem dX3_cellTowards_62 : decode cX3_cellTowards 62 = .ok (.if_icmp .ge 10, 3) := by decide +kernel
theorem dX3_cellTowards_65 : decode cX3_cellTowards 65 = .ok (.iload_n 0, 1) := by decide +kernel
theorem dX3_cellTowards_66 : decode cX3_cellTowards 66 = .ok (.bipush 6, 2) := by decide +kernel
theorem dX3_cellTowards_68 : decode cX3_cellTowards 68 = .ok (.iadd, 1) := by decide +kernel
theorem dX3_cellTowards_69 : decode cX3_cellTowards 69 = .ok (.goto 4, 3) := by decide +kernel
theorem dX3_cellTowards_72 : decode cX3_cellTowards 72 = .ok (.iconst (-1), 1) := by decide +kernel
theorem dX3_cellTowards_73 : decode cX3_cellTowards 73 = .ok (.ireturn, 1) := by decide +kernel
theorem dX3_cellTowards_74 : decode cX3_cellTowards 74 = .ok (.iload_n 0, 1) := by decide +kernel
theorem dX3_cellTowards_75 : decode cX3_cellTowards 75 = .ok (.bipush 6, 2) := by decide +kernel
theorem dX3_cellTowards_77 : decode cX3_cellTowards 77 = .ok (.irem, 1) := by decide +kernel
theorem dX3_cellTowards_78 : decode cX3_cellTowards 78 = .ok (.ifCond .le 9, 3) := by decide +kernel
theorem dX3_cellTowards_81 : decode cX3_cellTowards 81 = .ok (.iload_n 0, 1) := by decide +kernel
theorem dX3_cellTowards_82 : decode cX3_cellTowards 82 = .ok (.iconst 1, 1) := by decide +kernel
theorem dX3_cellTowards_83 : decode cX3_cellTowards 83 = .ok (.isub, 1) := by decide +kernel
theorem dX3_cellTowards_84 : decode cX3_cellTowards 84 = .ok (.goto 4, 3) := by decide +kernel
theorem dX3_cellTowards_87 : decode cX3_cellTowards 87 = .ok (.iconst (-1), 1) := by decide +kernel
theorem dX3_cellTowards_88 : decode cX3_cellTowards 88 = .ok (.ireturn, 1) := by decide +kernel
