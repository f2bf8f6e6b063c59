theorem d_F_init_0 : decode b_F_init 0 = .ok (.aload_n 0, 1) := by decide +kernel
theorem d_F_init_1 : decode b_F_init 1 = .ok (.invokespecial 1, 3) := by decide +kernel
theorem d_F_init_4 : decode b_F_init 4 = .ok (.new 7, 3) := by decide +kernel
theorem d_F_init_7 : decode b_F_init 7 = .ok (.dup, 1) := by decide +kernel
theorem d_F_init_8 : decode b_F_init 8 = .ok (.invokespecial 9, 3) := by decide +kernel
theorem d_F_init_11 : decode b_F_init 11 = .ok (.astore_n 1, 1) := by decide +kernel
theorem d_F_init_12 : decode b_F_init 12 = .ok (.new 10, 3) := by decide +kernel
theorem d_F_init_15 : decode b_F_init 15 = .ok (.dup, 1) := by decide +kernel
theorem d_F_init_16 : decode b_F_init 16 = .ok (.invokespecial 12, 3) := by decide +kernel
theorem d_F_init_19 : decode b_F_init 19 = .ok (.astore_n 2, 1) := by decide +kernel
theorem d_F_init_20 : decode b_F_init 20 = .ok (.aload_n 0, 1) := by decide +kernel
theorem d_F_init_21 : decode b_F_init 21 = .ok (.aload_n 1, 1) := by decide +kernel
theorem d_F_init_22 : decode b_F_init 22 = .ok (.putfield 13, 3) := by decide +kernel
theorem d_F_init_25 : decode b_F_init 25 = .ok (.aload_n 0, 1) := by decide +kernel
theorem d_F_init_26 : decode b_F_init 26 = .ok (.aload_n 2, 1) := by decide +kernel
theorem d_F_init_27 : decode b_F_init 27 = .ok (.putfield 19, 3) := by decide +kernel
theorem d_F_init_30 : decode b_F_init 30 = .ok (.aload_n 0, 1) := by decide +kernel
theorem d_F_init_31 : decode b_F_init 31 = .ok (.new 10, 3) := by decide +kernel
theorem d_F_init_34 : decode b_F_init 34 = .ok (.dup, 1) := by decide +kernel
theorem d_F_init_35 : decode b_F_init 35 = .ok (.invokespecial 12, 3) := by decide +kernel
theorem d_F_init_38 : decode b_F_init 38 = .ok (.putfield 23, 3) := by decide +kernel
theorem d_F_init_41 : decode b_F_init 41 = .ok (.aload_n 0, 1) := by decide +kernel
theorem d_F_init_42 : decode b_F_init 42 = .ok (.iconst 4, 1) := by decide +kernel
theorem d_F_init_43 : decode b_F_init 43 = .ok (.anewarray 10, 3) := by decide +kernel
theorem d_F_init_46 : decode b_F_init 46 = .ok (.putfield 26, 3) := by decide +kernel
theorem d_F_init_49 : decode b_F_init 49 = .ok (.iconst 0, 1) := by decide +kernel
theorem d_F_init_50 : decode b_F_init 50 = .ok (.istore_n 3, 1) := by decide +kernel
theorem d_F_init_51 : decode b_F_init 51 = .ok (.iload_n 3, 1) := by decide +kernel
theorem d_F_init_52 : decode b_F_init 52 = .ok (.iconst 4, 1) := by decide +kernel
theorem d_F_init_53 : decode b_F_init 53 = .ok (.if_icmp .ge 22, 3) := by decide +kernel
theorem d_F_init_56 : decode b_F_init 56 = .ok (.aload_n 0, 1) := by decide +kernel
theorem d_F_init_57 : decode b_F_init 57 = .ok (.getfield 26, 3) := by decide +kernel
theorem d_F_init_60 : decode b_F_init 60 = .ok (.iload_n 3, 1) := by decide +kernel
theorem d_F_init_61 : decode b_F_init 61 = .ok (.new 10, 3) := by decide +kernel
theorem d_F_init_64 : decode b_F_init 64 = .ok (.dup, 1) := by decide +kernel
theorem d_F_init_65 : decode b_F_init 65 = .ok (.invokespecial 12, 3) := by decide +kernel
theorem d_F_init_68 : decode b_F_init 68 = .ok (.aastore, 1) := by decide +kernel
theorem d_F_init_69 : decode b_F_init 69 = .ok (.iinc 3 1, 3) := by decide +kernel
theorem d_F_init_72 : decode b_F_init 72 = .ok (.goto (-21), 3) := by decide +kernel
theorem d_F_init_75 : decode b_F_init 75 = .ok (.aload_n 0, 1) := by decide +kernel
theorem d_F_init_76 : decode b_F_init 76 = .ok (.iconst 4, 1) := by decide +kernel
theorem d_F_init_77 : decode b_F_init 77 = .ok (.newarray .boolean, 2) := by decide +kernel
theorem d_F_init_79 : decode b_F_init 79 = .ok (.putfield 30, 3) := by decide +kernel
theorem d_F_init_82 : decode b_F_init 82 = .ok (.aload_n 0, 1) := by decide +kernel
theorem d_F_init_83 : decode b_F_init 83 = .ok (.new 34, 3) := by decide +kernel
theorem d_F_init_86 : decode b_F_init 86 = .ok (.dup, 1) := by decide +kernel
theorem d_F_init_87 : decode b_F_init 87 = .ok (.aload_n 1, 1) := by decide +kernel
theorem d_F_init_88 : decode b_F_init 88 = .ok (.aload_n 2, 1) := by decide +kernel
theorem d_F_init_89 : decode b_F_init 89 = .ok (.invokespecial 36, 3) := by decide +kernel
theorem d_F_init_92 : decode b_F_init 92 = .ok (.putfield 39, 3) := by decide +kernel
theorem d_F_init_95 : decode b_F_init 95 = .ok (.return_, 1) := by decide +kernel
theorem d_F_order_0 : decode b_F_order 0 = .ok (.aload_n 0, 1) := by decide +kernel
theorem d_F_order_1 : decode b_F_order 1 = .ok (.getfield 13, 3) := by decide +kernel
theorem d_F_order_4 : decode b_F_order 4 = .ok (.getfield 43, 3) := by decide +kernel
theorem d_F_order_7 : decode b_F_order 7 = .ok (.bipush 8, 2) := by decide +kernel
theorem d_F_order_9 : decode b_F_order 9 = .ok (.if_icmp .lt 13, 3) := by decide +kernel
theorem d_F_order_12 : decode b_F_order 12 = .ok (.new 47, 3) := by decide +kernel
theorem d_F_order_15 : decode b_F_order 15 = .ok (.dup, 1) := by decide +kernel
theorem d_F_order_16 : decode b_F_order 16 = .ok (.ldc 49, 2) := by decide +kernel
theorem d_F_order_18 : decode b_F_order 18 = .ok (.invokespecial 51, 3) := by decide +kernel
theorem d_F_order_21 : decode b_F_order 21 = .ok (.athrow, 1) := by decide +kernel
theorem d_F_order_22 : decode b_F_order 22 = .ok (.iload_n 1, 1) := by decide +kernel
theorem d_F_order_23 : decode b_F_order 23 = .ok (.iconst 0, 1) := by decide +kernel
theorem d_F_order_24 : decode b_F_order 24 = .ok (.bipush 9, 2) := by decide +kernel
theorem d_F_order_26 : decode b_F_order 26 = .ok (.invokestatic 54, 3) := by decide +kernel
theorem d_F_order_29 : decode b_F_order 29 = .ok (.ifCond .eq 14, 3) := by decide +kernel
theorem d_F_order_32 : decode b_F_order 32 = .ok (.iload_n 2, 1) := by decide +kernel
theorem d_F_order_33 : decode b_F_order 33 = .ok (.iconst 0, 1) := by decide +kernel
theorem d_F_order_34 : decode b_F_order 34 = .ok (.sipush 200, 3) := by decide +kernel
theorem d_F_order_37 : decode b_F_order 37 = .ok (.invokestatic 54, 3) := by decide +kernel
theorem d_F_order_40 : decode b_F_order 40 = .ok (.ifCond .ne 13, 3) := by decide +kernel
theorem d_F_order_43 : decode b_F_order 43 = .ok (.new 58, 3) := by decide +kernel
theorem d_F_order_46 : decode b_F_order 46 = .ok (.dup, 1) := by decide +kernel
theorem d_F_order_47 : decode b_F_order 47 = .ok (.ldc 60, 2) := by decide +kernel
theorem d_F_order_49 : decode b_F_order 49 = .ok (.invokespecial 62, 3) := by decide +kernel
theorem d_F_order_52 : decode b_F_order 52 = .ok (.athrow, 1) := by decide +kernel
theorem d_F_order_53 : decode b_F_order 53 = .ok (.aload_n 0, 1) := by decide +kernel
theorem d_F_order_54 : decode b_F_order 54 = .ok (.getfield 13, 3) := by decide +kernel
theorem d_F_order_57 : decode b_F_order 57 = .ok (.iload_n 1, 1) := by decide +kernel
theorem d_F_order_58 : decode b_F_order 58 = .ok (.iload_n 2, 1) := by decide +kernel
theorem d_F_order_59 : decode b_F_order 59 = .ok (.invokevirtual 63, 3) := by decide +kernel
theorem d_F_order_62 : decode b_F_order 62 = .ok (.ireturn, 1) := by decide +kernel
theorem d_F_heat_0 : decode b_F_heat 0 = .ok (.aload_n 0, 1) := by decide +kernel
theorem d_F_heat_1 : decode b_F_heat 1 = .ok (.iload_n 1, 1) := by decide +kernel
theorem d_F_heat_2 : decode b_F_heat 2 = .ok (.invokevirtual 67, 3) := by decide +kernel
theorem d_F_heat_5 : decode b_F_heat 5 = .ok (.ifCond .eq 11, 3) := by decide +kernel
theorem d_F_heat_8 : decode b_F_heat 8 = .ok (.iload 4, 2) := by decide +kernel
theorem d_F_heat_10 : decode b_F_heat 10 = .ok (.invokestatic 71, 3) := by decide +kernel
theorem d_F_heat_13 : decode b_F_heat 13 = .ok (.ifCond .ne 13, 3) := by decide +kernel
theorem d_F_heat_16 : decode b_F_heat 16 = .ok (.new 74, 3) := by decide +kernel
theorem d_F_heat_19 : decode b_F_heat 19 = .ok (.dup, 1) := by decide +kernel
theorem d_F_heat_20 : decode b_F_heat 20 = .ok (.ldc 76, 2) := by decide +kernel
theorem d_F_heat_22 : decode b_F_heat 22 = .ok (.invokespecial 78, 3) := by decide +kernel
theorem d_F_heat_25 : decode b_F_heat 25 = .ok (.athrow, 1) := by decide +kernel
theorem d_F_heat_26 : decode b_F_heat 26 = .ok (.aload_n 0, 1) := by decide +kernel
theorem d_F_heat_27 : decode b_F_heat 27 = .ok (.getfield 13, 3) := by decide +kernel
theorem d_F_heat_30 : decode b_F_heat 30 = .ok (.getfield 79, 3) := by decide +kernel
theorem d_F_heat_33 : decode b_F_heat 33 = .ok (.bipush 6, 2) := by decide +kernel
theorem d_F_heat_35 : decode b_F_heat 35 = .ok (.if_icmp .lt 13, 3) := by decide +kernel
theorem d_F_heat_38 : decode b_F_heat 38 = .ok (.new 47, 3) := by decide +kernel
theorem d_F_heat_41 : decode b_F_heat 41 = .ok (.dup, 1) := by decide +kernel
theorem d_F_heat_42 : decode b_F_heat 42 = .ok (.ldc 82, 2) := by decide +kernel
theorem d_F_heat_44 : decode b_F_heat 44 = .ok (.invokespecial 51, 3) := by decide +kernel
theorem d_F_heat_47 : decode b_F_heat 47 = .ok (.athrow, 1) := by decide +kernel
theorem d_F_heat_48 : decode b_F_heat 48 = .ok (.iload_n 2, 1) := by decide +kernel
theorem d_F_heat_49 : decode b_F_heat 49 = .ok (.iconst 1, 1) := by decide +kernel
theorem d_F_heat_50 : decode b_F_heat 50 = .ok (.bipush 20, 2) := by decide +kernel
theorem d_F_heat_52 : decode b_F_heat 52 = .ok (.invokestatic 54, 3) := by decide +kernel
theorem d_F_heat_55 : decode b_F_heat 55 = .ok (.ifCond .eq 21, 3) := by decide +kernel
theorem d_F_heat_58 : decode b_F_heat 58 = .ok (.iload_n 3, 1) := by decide +kernel
theorem d_F_heat_59 : decode b_F_heat 59 = .ok (.iconst 1, 1) := by decide +kernel
theorem d_F_heat_60 : decode b_F_heat 60 = .ok (.bipush 7, 2) := by decide +kernel
theorem d_F_heat_62 : decode b_F_heat 62 = .ok (.invokestatic 54, 3) := by decide +kernel
theorem d_F_heat_65 : decode b_F_heat 65 = .ok (.ifCond .eq 11, 3) := by decide +kernel
theorem d_F_heat_68 : decode b_F_heat 68 = .ok (.iload 5, 2) := by decide +kernel
theorem d_F_heat_70 : decode b_F_heat 70 = .ok (.invokestatic 84, 3) := by decide +kernel
theorem d_F_heat_73 : decode b_F_heat 73 = .ok (.ifCond .ne 13, 3) := by decide +kernel
theorem d_F_heat_76 : decode b_F_heat 76 = .ok (.new 58, 3) := by decide +kernel
theorem d_F_heat_79 : decode b_F_heat 79 = .ok (.dup, 1) := by decide +kernel
theorem d_F_heat_80 : decode b_F_heat 80 = .ok (.ldc 87, 2) := by decide +kernel
theorem d_F_heat_82 : decode b_F_heat 82 = .ok (.invokespecial 62, 3) := by decide +kernel
theorem d_F_heat_85 : decode b_F_heat 85 = .ok (.athrow, 1) := by decide +kernel
theorem d_F_heat_86 : decode b_F_heat 86 = .ok (.iload_n 3, 1) := by decide +kernel
theorem d_F_heat_87 : decode b_F_heat 87 = .ok (.iload 4, 2) := by decide +kernel
theorem d_F_heat_89 : decode b_F_heat 89 = .ok (.invokestatic 89, 3) := by decide +kernel
theorem d_F_heat_92 : decode b_F_heat 92 = .ok (.ifCond .eq 29, 3) := by decide +kernel
theorem d_F_heat_95 : decode b_F_heat 95 = .ok (.aload_n 0, 1) := by decide +kernel
theorem d_F_heat_96 : decode b_F_heat 96 = .ok (.getfield 13, 3) := by decide +kernel
theorem d_F_heat_99 : decode b_F_heat 99 = .ok (.aload_n 0, 1) := by decide +kernel
theorem d_F_heat_100 : decode b_F_heat 100 = .ok (.getfield 19, 3) := by decide +kernel
theorem d_F_heat_103 : decode b_F_heat 103 = .ok (.aload_n 0, 1) := by decide +kernel
theorem d_F_heat_104 : decode b_F_heat 104 = .ok (.getfield 13, 3) := by decide +kernel
theorem d_F_heat_107 : decode b_F_heat 107 = .ok (.getfield 79, 3) := by decide +kernel
theorem d_F_heat_110 : decode b_F_heat 110 = .ok (.iload 4, 2) := by decide +kernel
theorem d_F_heat_112 : decode b_F_heat 112 = .ok (.iload 5, 2) := by decide +kernel
theorem d_F_heat_114 : decode b_F_heat 114 = .ok (.iload_n 2, 1) := by decide +kernel
theorem d_F_heat_115 : decode b_F_heat 115 = .ok (.invokevirtual 93, 3) := by decide +kernel
theorem d_F_heat_118 : decode b_F_heat 118 = .ok (.ifCond .ne 13, 3) := by decide +kernel
theorem d_F_heat_121 : decode b_F_heat 121 = .ok (.new 97, 3) := by decide +kernel
theorem d_F_heat_124 : decode b_F_heat 124 = .ok (.dup, 1) := by decide +kernel
theorem d_F_heat_125 : decode b_F_heat 125 = .ok (.ldc 99, 2) := by decide +kernel
theorem d_F_heat_127 : decode b_F_heat 127 = .ok (.invokespecial 101, 3) := by decide +kernel
theorem d_F_heat_130 : decode b_F_heat 130 = .ok (.athrow, 1) := by decide +kernel
theorem d_F_heat_131 : decode b_F_heat 131 = .ok (.aload_n 0, 1) := by decide +kernel
theorem d_F_heat_132 : decode b_F_heat 132 = .ok (.getfield 13, 3) := by decide +kernel
theorem d_F_heat_135 : decode b_F_heat 135 = .ok (.iload_n 2, 1) := by decide +kernel
theorem d_F_heat_136 : decode b_F_heat 136 = .ok (.iload_n 3, 1) := by decide +kernel
theorem d_F_heat_137 : decode b_F_heat 137 = .ok (.invokevirtual 102, 3) := by decide +kernel
theorem d_F_heat_140 : decode b_F_heat 140 = .ok (.istore 6, 2) := by decide +kernel
theorem d_F_heat_142 : decode b_F_heat 142 = .ok (.aload_n 0, 1) := by decide +kernel
theorem d_F_heat_143 : decode b_F_heat 143 = .ok (.getfield 19, 3) := by decide +kernel
theorem d_F_heat_146 : decode b_F_heat 146 = .ok (.iload 6, 2) := by decide +kernel
theorem d_F_heat_148 : decode b_F_heat 148 = .ok (.iload 4, 2) := by decide +kernel
theorem d_F_heat_150 : decode b_F_heat 150 = .ok (.iload 5, 2) := by decide +kernel
theorem d_F_heat_152 : decode b_F_heat 152 = .ok (.invokevirtual 105, 3) := by decide +kernel
theorem d_F_heat_155 : decode b_F_heat 155 = .ok (.aload_n 0, 1) := by decide +kernel
theorem d_F_heat_156 : decode b_F_heat 156 = .ok (.getfield 19, 3) := by decide +kernel
theorem d_F_heat_159 : decode b_F_heat 159 = .ok (.getfield 109, 3) := by decide +kernel
theorem d_F_heat_162 : decode b_F_heat 162 = .ok (.iload 6, 2) := by decide +kernel
theorem d_F_heat_164 : decode b_F_heat 164 = .ok (.iload_n 1, 1) := by decide +kernel
theorem d_F_heat_165 : decode b_F_heat 165 = .ok (.iastore, 1) := by decide +kernel
theorem d_F_heat_166 : decode b_F_heat 166 = .ok (.aload_n 0, 1) := by decide +kernel
theorem d_F_heat_167 : decode b_F_heat 167 = .ok (.invokevirtual 113, 3) := by decide +kernel
theorem d_F_heat_170 : decode b_F_heat 170 = .ok (.iload 6, 2) := by decide +kernel
theorem d_F_heat_172 : decode b_F_heat 172 = .ok (.ireturn, 1) := by decide +kernel
theorem d_F_stop_0 : decode b_F_stop 0 = .ok (.iload_n 1, 1) := by decide +kernel
theorem d_F_stop_1 : decode b_F_stop 1 = .ok (.invokestatic 71, 3) := by decide +kernel
theorem d_F_stop_4 : decode b_F_stop 4 = .ok (.ifCond .ne 13, 3) := by decide +kernel
theorem d_F_stop_7 : decode b_F_stop 7 = .ok (.new 74, 3) := by decide +kernel
theorem d_F_stop_10 : decode b_F_stop 10 = .ok (.dup, 1) := by decide +kernel
theorem d_F_stop_11 : decode b_F_stop 11 = .ok (.ldc 116, 2) := by decide +kernel
theorem d_F_stop_13 : decode b_F_stop 13 = .ok (.invokespecial 78, 3) := by decide +kernel
theorem d_F_stop_16 : decode b_F_stop 16 = .ok (.athrow, 1) := by decide +kernel
theorem d_F_stop_17 : decode b_F_stop 17 = .ok (.aload_n 0, 1) := by decide +kernel
theorem d_F_stop_18 : decode b_F_stop 18 = .ok (.getfield 13, 3) := by decide +kernel
theorem d_F_stop_21 : decode b_F_stop 21 = .ok (.getfield 118, 3) := by decide +kernel
theorem d_F_stop_24 : decode b_F_stop 24 = .ok (.bipush 10, 2) := by decide +kernel
theorem d_F_stop_26 : decode b_F_stop 26 = .ok (.if_icmp .lt 13, 3) := by decide +kernel
theorem d_F_stop_29 : decode b_F_stop 29 = .ok (.new 47, 3) := by decide +kernel
theorem d_F_stop_32 : decode b_F_stop 32 = .ok (.dup, 1) := by decide +kernel
theorem d_F_stop_33 : decode b_F_stop 33 = .ok (.ldc 121, 2) := by decide +kernel
theorem d_F_stop_35 : decode b_F_stop 35 = .ok (.invokespecial 51, 3) := by decide +kernel
theorem d_F_stop_38 : decode b_F_stop 38 = .ok (.athrow, 1) := by decide +kernel
theorem d_F_stop_39 : decode b_F_stop 39 = .ok (.iload_n 2, 1) := by decide +kernel
theorem d_F_stop_40 : decode b_F_stop 40 = .ok (.iconst 0, 1) := by decide +kernel
theorem d_F_stop_41 : decode b_F_stop 41 = .ok (.bipush 60, 2) := by decide +kernel
theorem d_F_stop_43 : decode b_F_stop 43 = .ok (.invokestatic 54, 3) := by decide +kernel
theorem d_F_stop_46 : decode b_F_stop 46 = .ok (.ifCond .eq 18, 3) := by decide +kernel
theorem d_F_stop_49 : decode b_F_stop 49 = .ok (.iload_n 3, 1) := by decide +kernel
theorem d_F_stop_50 : decode b_F_stop 50 = .ok (.iconst 0, 1) := by decide +kernel
theorem d_F_stop_51 : decode b_F_stop 51 = .ok (.bipush 60, 2) := by decide +kernel
theorem d_F_stop_53 : decode b_F_stop 53 = .ok (.invokestatic 54, 3) := by decide +kernel
theorem d_F_stop_56 : decode b_F_stop 56 = .ok (.ifCond .eq 8, 3) := by decide +kernel
theorem d_F_stop_59 : decode b_F_stop 59 = .ok (.iload_n 3, 1) := by decide +kernel
theorem d_F_stop_60 : decode b_F_stop 60 = .ok (.iload_n 2, 1) := by decide +kernel
theorem d_F_stop_61 : decode b_F_stop 61 = .ok (.if_icmp .gt 13, 3) := by decide +kernel
theorem d_F_stop_64 : decode b_F_stop 64 = .ok (.new 58, 3) := by decide +kernel
theorem d_F_stop_67 : decode b_F_stop 67 = .ok (.dup, 1) := by decide +kernel
theorem d_F_stop_68 : decode b_F_stop 68 = .ok (.ldc 123, 2) := by decide +kernel
theorem d_F_stop_70 : decode b_F_stop 70 = .ok (.invokespecial 62, 3) := by decide +kernel
theorem d_F_stop_73 : decode b_F_stop 73 = .ok (.athrow, 1) := by decide +kernel
theorem d_F_stop_74 : decode b_F_stop 74 = .ok (.aload_n 0, 1) := by decide +kernel
theorem d_F_stop_75 : decode b_F_stop 75 = .ok (.getfield 13, 3) := by decide +kernel
theorem d_F_stop_78 : decode b_F_stop 78 = .ok (.iload_n 1, 1) := by decide +kernel
theorem d_F_stop_79 : decode b_F_stop 79 = .ok (.iload_n 2, 1) := by decide +kernel
theorem d_F_stop_80 : decode b_F_stop 80 = .ok (.iload_n 3, 1) := by decide +kernel
theorem d_F_stop_81 : decode b_F_stop 81 = .ok (.invokevirtual 125, 3) := by decide +kernel
theorem d_F_stop_84 : decode b_F_stop 84 = .ok (.ireturn, 1) := by decide +kernel
theorem d_F_go_0 : decode b_F_go 0 = .ok (.aload_n 0, 1) := by decide +kernel
theorem d_F_go_1 : decode b_F_go 1 = .ok (.getfield 13, 3) := by decide +kernel
theorem d_F_go_4 : decode b_F_go 4 = .ok (.invokevirtual 129, 3) := by decide +kernel
theorem d_F_go_7 : decode b_F_go 7 = .ok (.return_, 1) := by decide +kernel
theorem d_F_clock_0 : decode b_F_clock 0 = .ok (.iload_n 1, 1) := by decide +kernel
theorem d_F_clock_1 : decode b_F_clock 1 = .ok (.iconst 0, 1) := by decide +kernel
theorem d_F_clock_2 : decode b_F_clock 2 = .ok (.bipush 60, 2) := by decide +kernel
theorem d_F_clock_4 : decode b_F_clock 4 = .ok (.invokestatic 54, 3) := by decide +kernel
theorem d_F_clock_7 : decode b_F_clock 7 = .ok (.ifCond .eq 13, 3) := by decide +kernel
theorem d_F_clock_10 : decode b_F_clock 10 = .ok (.iload_n 2, 1) := by decide +kernel
theorem d_F_clock_11 : decode b_F_clock 11 = .ok (.iconst 0, 1) := by decide +kernel
theorem d_F_clock_12 : decode b_F_clock 12 = .ok (.bipush 60, 2) := by decide +kernel
theorem d_F_clock_14 : decode b_F_clock 14 = .ok (.invokestatic 54, 3) := by decide +kernel
theorem d_F_clock_17 : decode b_F_clock 17 = .ok (.ifCond .ne 13, 3) := by decide +kernel
theorem d_F_clock_20 : decode b_F_clock 20 = .ok (.new 58, 3) := by decide +kernel
theorem d_F_clock_23 : decode b_F_clock 23 = .ok (.dup, 1) := by decide +kernel
theorem d_F_clock_24 : decode b_F_clock 24 = .ok (.ldc 132, 2) := by decide +kernel
theorem d_F_clock_26 : decode b_F_clock 26 = .ok (.invokespecial 62, 3) := by decide +kernel
theorem d_F_clock_29 : decode b_F_clock 29 = .ok (.athrow, 1) := by decide +kernel
theorem d_F_clock_30 : decode b_F_clock 30 = .ok (.aload_n 0, 1) := by decide +kernel
theorem d_F_clock_31 : decode b_F_clock 31 = .ok (.getfield 13, 3) := by decide +kernel
theorem d_F_clock_34 : decode b_F_clock 34 = .ok (.iload_n 1, 1) := by decide +kernel
theorem d_F_clock_35 : decode b_F_clock 35 = .ok (.putfield 134, 3) := by decide +kernel
theorem d_F_clock_38 : decode b_F_clock 38 = .ok (.aload_n 0, 1) := by decide +kernel
theorem d_F_clock_39 : decode b_F_clock 39 = .ok (.getfield 13, 3) := by decide +kernel
theorem d_F_clock_42 : decode b_F_clock 42 = .ok (.iload_n 2, 1) := by decide +kernel
theorem d_F_clock_43 : decode b_F_clock 43 = .ok (.putfield 137, 3) := by decide +kernel
theorem d_F_clock_46 : decode b_F_clock 46 = .ok (.return_, 1) := by decide +kernel
theorem d_F_place_0 : decode b_F_place 0 = .ok (.aload_n 0, 1) := by decide +kernel
theorem d_F_place_1 : decode b_F_place 1 = .ok (.iload_n 1, 1) := by decide +kernel
theorem d_F_place_2 : decode b_F_place 2 = .ok (.invokevirtual 140, 3) := by decide +kernel
theorem d_F_place_5 : decode b_F_place 5 = .ok (.ifCond .eq 10, 3) := by decide +kernel
theorem d_F_place_8 : decode b_F_place 8 = .ok (.iload_n 2, 1) := by decide +kernel
theorem d_F_place_9 : decode b_F_place 9 = .ok (.invokestatic 71, 3) := by decide +kernel
theorem d_F_place_12 : decode b_F_place 12 = .ok (.ifCond .ne 13, 3) := by decide +kernel
theorem d_F_place_15 : decode b_F_place 15 = .ok (.new 74, 3) := by decide +kernel
theorem d_F_place_18 : decode b_F_place 18 = .ok (.dup, 1) := by decide +kernel
theorem d_F_place_19 : decode b_F_place 19 = .ok (.ldc 143, 2) := by decide +kernel
theorem d_F_place_21 : decode b_F_place 21 = .ok (.invokespecial 78, 3) := by decide +kernel
theorem d_F_place_24 : decode b_F_place 24 = .ok (.athrow, 1) := by decide +kernel
theorem d_F_place_25 : decode b_F_place 25 = .ok (.aload_n 0, 1) := by decide +kernel
theorem d_F_place_26 : decode b_F_place 26 = .ok (.getfield 13, 3) := by decide +kernel
theorem d_F_place_29 : decode b_F_place 29 = .ok (.aload_n 0, 1) := by decide +kernel
theorem d_F_place_30 : decode b_F_place 30 = .ok (.getfield 19, 3) := by decide +kernel
theorem d_F_place_33 : decode b_F_place 33 = .ok (.iload_n 1, 1) := by decide +kernel
theorem d_F_place_34 : decode b_F_place 34 = .ok (.invokevirtual 145, 3) := by decide +kernel
theorem d_F_place_37 : decode b_F_place 37 = .ok (.ifCond .eq 13, 3) := by decide +kernel
theorem d_F_place_40 : decode b_F_place 40 = .ok (.new 47, 3) := by decide +kernel
theorem d_F_place_43 : decode b_F_place 43 = .ok (.dup, 1) := by decide +kernel
theorem d_F_place_44 : decode b_F_place 44 = .ok (.ldc 149, 2) := by decide +kernel
theorem d_F_place_46 : decode b_F_place 46 = .ok (.invokespecial 51, 3) := by decide +kernel
theorem d_F_place_49 : decode b_F_place 49 = .ok (.athrow, 1) := by decide +kernel
theorem d_F_place_50 : decode b_F_place 50 = .ok (.iload_n 3, 1) := by decide +kernel
theorem d_F_place_51 : decode b_F_place 51 = .ok (.invokestatic 84, 3) := by decide +kernel
theorem d_F_place_54 : decode b_F_place 54 = .ok (.ifCond .ne 13, 3) := by decide +kernel
theorem d_F_place_57 : decode b_F_place 57 = .ok (.new 58, 3) := by decide +kernel
theorem d_F_place_60 : decode b_F_place 60 = .ok (.dup, 1) := by decide +kernel
theorem d_F_place_61 : decode b_F_place 61 = .ok (.ldc 151, 2) := by decide +kernel
theorem d_F_place_63 : decode b_F_place 63 = .ok (.invokespecial 62, 3) := by decide +kernel
theorem d_F_place_66 : decode b_F_place 66 = .ok (.athrow, 1) := by decide +kernel
theorem d_F_place_67 : decode b_F_place 67 = .ok (.aload_n 0, 1) := by decide +kernel
theorem d_F_place_68 : decode b_F_place 68 = .ok (.getfield 13, 3) := by decide +kernel
theorem d_F_place_71 : decode b_F_place 71 = .ok (.aload_n 0, 1) := by decide +kernel
theorem d_F_place_72 : decode b_F_place 72 = .ok (.getfield 19, 3) := by decide +kernel
theorem d_F_place_75 : decode b_F_place 75 = .ok (.iload_n 1, 1) := by decide +kernel
theorem d_F_place_76 : decode b_F_place 76 = .ok (.iload_n 2, 1) := by decide +kernel
theorem d_F_place_77 : decode b_F_place 77 = .ok (.iload_n 3, 1) := by decide +kernel
theorem d_F_place_78 : decode b_F_place 78 = .ok (.invokevirtual 153, 3) := by decide +kernel
theorem d_F_place_81 : decode b_F_place 81 = .ok (.ifCond .ne 13, 3) := by decide +kernel
theorem d_F_place_84 : decode b_F_place 84 = .ok (.new 97, 3) := by decide +kernel
theorem d_F_place_87 : decode b_F_place 87 = .ok (.dup, 1) := by decide +kernel
theorem d_F_place_88 : decode b_F_place 88 = .ok (.ldc 157, 2) := by decide +kernel
theorem d_F_place_90 : decode b_F_place 90 = .ok (.invokespecial 101, 3) := by decide +kernel
theorem d_F_place_93 : decode b_F_place 93 = .ok (.athrow, 1) := by decide +kernel
theorem d_F_place_94 : decode b_F_place 94 = .ok (.aload_n 0, 1) := by decide +kernel
theorem d_F_place_95 : decode b_F_place 95 = .ok (.invokevirtual 159, 3) := by decide +kernel
theorem d_F_place_98 : decode b_F_place 98 = .ok (.aload_n 0, 1) := by decide +kernel
theorem d_F_place_99 : decode b_F_place 99 = .ok (.getfield 19, 3) := by decide +kernel
theorem d_F_place_102 : decode b_F_place 102 = .ok (.iload_n 1, 1) := by decide +kernel
theorem d_F_place_103 : decode b_F_place 103 = .ok (.iload_n 2, 1) := by decide +kernel
theorem d_F_place_104 : decode b_F_place 104 = .ok (.iload_n 3, 1) := by decide +kernel
theorem d_F_place_105 : decode b_F_place 105 = .ok (.invokevirtual 105, 3) := by decide +kernel
theorem d_F_place_108 : decode b_F_place 108 = .ok (.return_, 1) := by decide +kernel
theorem d_F_divert_0 : decode b_F_divert 0 = .ok (.aload_n 0, 1) := by decide +kernel
theorem d_F_divert_1 : decode b_F_divert 1 = .ok (.iload_n 1, 1) := by decide +kernel
theorem d_F_divert_2 : decode b_F_divert 2 = .ok (.invokevirtual 140, 3) := by decide +kernel
theorem d_F_divert_5 : decode b_F_divert 5 = .ok (.ifCond .eq 11, 3) := by decide +kernel
theorem d_F_divert_8 : decode b_F_divert 8 = .ok (.aload_n 0, 1) := by decide +kernel
theorem d_F_divert_9 : decode b_F_divert 9 = .ok (.iload_n 2, 1) := by decide +kernel
theorem d_F_divert_10 : decode b_F_divert 10 = .ok (.invokevirtual 67, 3) := by decide +kernel
theorem d_F_divert_13 : decode b_F_divert 13 = .ok (.ifCond .ne 13, 3) := by decide +kernel
theorem d_F_divert_16 : decode b_F_divert 16 = .ok (.new 74, 3) := by decide +kernel
theorem d_F_divert_19 : decode b_F_divert 19 = .ok (.dup, 1) := by decide +kernel
theorem d_F_divert_20 : decode b_F_divert 20 = .ok (.ldc 162, 2) := by decide +kernel
theorem d_F_divert_22 : decode b_F_divert 22 = .ok (.invokespecial 78, 3) := by decide +kernel
theorem d_F_divert_25 : decode b_F_divert 25 = .ok (.athrow, 1) := by decide +kernel
theorem d_F_divert_26 : decode b_F_divert 26 = .ok (.aload_n 0, 1) := by decide +kernel
theorem d_F_divert_27 : decode b_F_divert 27 = .ok (.getfield 19, 3) := by decide +kernel
theorem d_F_divert_30 : decode b_F_divert 30 = .ok (.getfield 109, 3) := by decide +kernel
theorem d_F_divert_33 : decode b_F_divert 33 = .ok (.iload_n 1, 1) := by decide +kernel
theorem d_F_divert_34 : decode b_F_divert 34 = .ok (.iaload, 1) := by decide +kernel
theorem d_F_divert_35 : decode b_F_divert 35 = .ok (.istore_n 3, 1) := by decide +kernel
theorem d_F_divert_36 : decode b_F_divert 36 = .ok (.iload_n 3, 1) := by decide +kernel
theorem d_F_divert_37 : decode b_F_divert 37 = .ok (.iload_n 2, 1) := by decide +kernel
theorem d_F_divert_38 : decode b_F_divert 38 = .ok (.if_icmp .eq 24, 3) := by decide +kernel
theorem d_F_divert_41 : decode b_F_divert 41 = .ok (.aload_n 0, 1) := by decide +kernel
theorem d_F_divert_42 : decode b_F_divert 42 = .ok (.getfield 13, 3) := by decide +kernel
theorem d_F_divert_45 : decode b_F_divert 45 = .ok (.getfield 164, 3) := by decide +kernel
theorem d_F_divert_48 : decode b_F_divert 48 = .ok (.iload_n 3, 1) := by decide +kernel
theorem d_F_divert_49 : decode b_F_divert 49 = .ok (.iaload, 1) := by decide +kernel
theorem d_F_divert_50 : decode b_F_divert 50 = .ok (.aload_n 0, 1) := by decide +kernel
theorem d_F_divert_51 : decode b_F_divert 51 = .ok (.getfield 13, 3) := by decide +kernel
theorem d_F_divert_54 : decode b_F_divert 54 = .ok (.getfield 164, 3) := by decide +kernel
theorem d_F_divert_57 : decode b_F_divert 57 = .ok (.iload_n 2, 1) := by decide +kernel
theorem d_F_divert_58 : decode b_F_divert 58 = .ok (.iaload, 1) := by decide +kernel
theorem d_F_divert_59 : decode b_F_divert 59 = .ok (.if_icmp .eq 13, 3) := by decide +kernel
theorem d_F_divert_62 : decode b_F_divert 62 = .ok (.new 97, 3) := by decide +kernel
theorem d_F_divert_65 : decode b_F_divert 65 = .ok (.dup, 1) := by decide +kernel
theorem d_F_divert_66 : decode b_F_divert 66 = .ok (.ldc 167, 2) := by decide +kernel
theorem d_F_divert_68 : decode b_F_divert 68 = .ok (.invokespecial 101, 3) := by decide +kernel
theorem d_F_divert_71 : decode b_F_divert 71 = .ok (.athrow, 1) := by decide +kernel
theorem d_F_divert_72 : decode b_F_divert 72 = .ok (.aload_n 0, 1) := by decide +kernel
theorem d_F_divert_73 : decode b_F_divert 73 = .ok (.invokevirtual 159, 3) := by decide +kernel
theorem d_F_divert_76 : decode b_F_divert 76 = .ok (.aload_n 0, 1) := by decide +kernel
theorem d_F_divert_77 : decode b_F_divert 77 = .ok (.getfield 19, 3) := by decide +kernel
theorem d_F_divert_80 : decode b_F_divert 80 = .ok (.getfield 109, 3) := by decide +kernel
theorem d_F_divert_83 : decode b_F_divert 83 = .ok (.iload_n 1, 1) := by decide +kernel
theorem d_F_divert_84 : decode b_F_divert 84 = .ok (.iload_n 2, 1) := by decide +kernel
theorem d_F_divert_85 : decode b_F_divert 85 = .ok (.iastore, 1) := by decide +kernel
theorem d_F_divert_86 : decode b_F_divert 86 = .ok (.return_, 1) := by decide +kernel
theorem d_F_run_0 : decode b_F_run 0 = .ok (.iload_n 1, 1) := by decide +kernel
theorem d_F_run_1 : decode b_F_run 1 = .ok (.iconst 0, 1) := by decide +kernel
theorem d_F_run_2 : decode b_F_run 2 = .ok (.ldc 169, 2) := by decide +kernel
theorem d_F_run_4 : decode b_F_run 4 = .ok (.invokestatic 54, 3) := by decide +kernel
theorem d_F_run_7 : decode b_F_run 7 = .ok (.ifCond .ne 13, 3) := by decide +kernel
theorem d_F_run_10 : decode b_F_run 10 = .ok (.new 58, 3) := by decide +kernel
theorem d_F_run_13 : decode b_F_run 13 = .ok (.dup, 1) := by decide +kernel
theorem d_F_run_14 : decode b_F_run 14 = .ok (.ldc 170, 2) := by decide +kernel
theorem d_F_run_16 : decode b_F_run 16 = .ok (.invokespecial 62, 3) := by decide +kernel
theorem d_F_run_19 : decode b_F_run 19 = .ok (.athrow, 1) := by decide +kernel
theorem d_F_run_20 : decode b_F_run 20 = .ok (.aload_n 0, 1) := by decide +kernel
theorem d_F_run_21 : decode b_F_run 21 = .ok (.getfield 39, 3) := by decide +kernel
theorem d_F_run_24 : decode b_F_run 24 = .ok (.iload_n 1, 1) := by decide +kernel
theorem d_F_run_25 : decode b_F_run 25 = .ok (.invokevirtual 172, 3) := by decide +kernel
theorem d_F_run_28 : decode b_F_run 28 = .ok (.aload_n 0, 1) := by decide +kernel
theorem d_F_run_29 : decode b_F_run 29 = .ok (.getfield 39, 3) := by decide +kernel
theorem d_F_run_32 : decode b_F_run 32 = .ok (.invokevirtual 176, 3) := by decide +kernel
theorem d_F_run_35 : decode b_F_run 35 = .ok (.ifCond .ne 5, 3) := by decide +kernel
theorem d_F_run_38 : decode b_F_run 38 = .ok (.iconst (-1), 1) := by decide +kernel
theorem d_F_run_39 : decode b_F_run 39 = .ok (.ireturn, 1) := by decide +kernel
theorem d_F_run_40 : decode b_F_run 40 = .ok (.aload_n 0, 1) := by decide +kernel
theorem d_F_run_41 : decode b_F_run 41 = .ok (.getfield 39, 3) := by decide +kernel
theorem d_F_run_44 : decode b_F_run 44 = .ok (.getfield 180, 3) := by decide +kernel
theorem d_F_run_47 : decode b_F_run 47 = .ok (.ifCond .le 21, 3) := by decide +kernel
theorem d_F_run_50 : decode b_F_run 50 = .ok (.aload_n 0, 1) := by decide +kernel
theorem d_F_run_51 : decode b_F_run 51 = .ok (.invokevirtual 159, 3) := by decide +kernel
theorem d_F_run_54 : decode b_F_run 54 = .ok (.aload_n 0, 1) := by decide +kernel
theorem d_F_run_55 : decode b_F_run 55 = .ok (.getfield 19, 3) := by decide +kernel
theorem d_F_run_58 : decode b_F_run 58 = .ok (.aload_n 0, 1) := by decide +kernel
theorem d_F_run_59 : decode b_F_run 59 = .ok (.getfield 39, 3) := by decide +kernel
theorem d_F_run_62 : decode b_F_run 62 = .ok (.getfield 183, 3) := by decide +kernel
theorem d_F_run_65 : decode b_F_run 65 = .ok (.invokevirtual 186, 3) := by decide +kernel
theorem d_F_run_68 : decode b_F_run 68 = .ok (.aload_n 0, 1) := by decide +kernel
theorem d_F_run_69 : decode b_F_run 69 = .ok (.getfield 39, 3) := by decide +kernel
theorem d_F_run_72 : decode b_F_run 72 = .ok (.getfield 180, 3) := by decide +kernel
theorem d_F_run_75 : decode b_F_run 75 = .ok (.ireturn, 1) := by decide +kernel
theorem d_F_told_0 : decode b_F_told 0 = .ok (.iload_n 1, 1) := by decide +kernel
theorem d_F_told_1 : decode b_F_told 1 = .ok (.iconst 0, 1) := by decide +kernel
theorem d_F_told_2 : decode b_F_told 2 = .ok (.iconst 3, 1) := by decide +kernel
theorem d_F_told_3 : decode b_F_told 3 = .ok (.invokestatic 54, 3) := by decide +kernel
theorem d_F_told_6 : decode b_F_told 6 = .ok (.ifCond .ne 13, 3) := by decide +kernel
theorem d_F_told_9 : decode b_F_told 9 = .ok (.new 74, 3) := by decide +kernel
theorem d_F_told_12 : decode b_F_told 12 = .ok (.dup, 1) := by decide +kernel
theorem d_F_told_13 : decode b_F_told 13 = .ok (.ldc 190, 2) := by decide +kernel
theorem d_F_told_15 : decode b_F_told 15 = .ok (.invokespecial 78, 3) := by decide +kernel
theorem d_F_told_18 : decode b_F_told 18 = .ok (.athrow, 1) := by decide +kernel
theorem d_F_told_19 : decode b_F_told 19 = .ok (.aload_n 0, 1) := by decide +kernel
theorem d_F_told_20 : decode b_F_told 20 = .ok (.getfield 39, 3) := by decide +kernel
theorem d_F_told_23 : decode b_F_told 23 = .ok (.getfield 192, 3) := by decide +kernel
theorem d_F_told_26 : decode b_F_told 26 = .ok (.ifCond .ne 13, 3) := by decide +kernel
theorem d_F_told_29 : decode b_F_told 29 = .ok (.new 47, 3) := by decide +kernel
theorem d_F_told_32 : decode b_F_told 32 = .ok (.dup, 1) := by decide +kernel
theorem d_F_told_33 : decode b_F_told 33 = .ok (.ldc 196, 2) := by decide +kernel
theorem d_F_told_35 : decode b_F_told 35 = .ok (.invokespecial 51, 3) := by decide +kernel
theorem d_F_told_38 : decode b_F_told 38 = .ok (.athrow, 1) := by decide +kernel
theorem d_F_told_39 : decode b_F_told 39 = .ok (.iload_n 1, 1) := by decide +kernel
theorem d_F_told_40 : decode b_F_told 40 = .ok (.tableswitch 60 0 2 #[28, 44, 52], 28) := by decide +kernel
theorem d_F_told_68 : decode b_F_told 68 = .ok (.aload_n 0, 1) := by decide +kernel
theorem d_F_told_69 : decode b_F_told 69 = .ok (.getfield 39, 3) := by decide +kernel
theorem d_F_told_72 : decode b_F_told 72 = .ok (.getfield 198, 3) := by decide +kernel
theorem d_F_told_75 : decode b_F_told 75 = .ok (.ifCond .eq 7, 3) := by decide +kernel
theorem d_F_told_78 : decode b_F_told 78 = .ok (.iconst 1, 1) := by decide +kernel
theorem d_F_told_79 : decode b_F_told 79 = .ok (.goto 4, 3) := by decide +kernel
theorem d_F_told_82 : decode b_F_told 82 = .ok (.iconst 0, 1) := by decide +kernel
theorem d_F_told_83 : decode b_F_told 83 = .ok (.ireturn, 1) := by decide +kernel
theorem d_F_told_84 : decode b_F_told 84 = .ok (.aload_n 0, 1) := by decide +kernel
theorem d_F_told_85 : decode b_F_told 85 = .ok (.getfield 39, 3) := by decide +kernel
theorem d_F_told_88 : decode b_F_told 88 = .ok (.getfield 201, 3) := by decide +kernel
theorem d_F_told_91 : decode b_F_told 91 = .ok (.ireturn, 1) := by decide +kernel
theorem d_F_told_92 : decode b_F_told 92 = .ok (.aload_n 0, 1) := by decide +kernel
theorem d_F_told_93 : decode b_F_told 93 = .ok (.getfield 39, 3) := by decide +kernel
theorem d_F_told_96 : decode b_F_told 96 = .ok (.getfield 180, 3) := by decide +kernel
theorem d_F_told_99 : decode b_F_told 99 = .ok (.ireturn, 1) := by decide +kernel
theorem d_F_told_100 : decode b_F_told 100 = .ok (.aload_n 0, 1) := by decide +kernel
theorem d_F_told_101 : decode b_F_told 101 = .ok (.getfield 39, 3) := by decide +kernel
theorem d_F_told_104 : decode b_F_told 104 = .ok (.getfield 203, 3) := by decide +kernel
theorem d_F_told_107 : decode b_F_told 107 = .ok (.ireturn, 1) := by decide +kernel
theorem d_F_at_0 : decode b_F_at 0 = .ok (.aload_n 0, 1) := by decide +kernel
theorem d_F_at_1 : decode b_F_at 1 = .ok (.iload_n 1, 1) := by decide +kernel
theorem d_F_at_2 : decode b_F_at 2 = .ok (.invokevirtual 140, 3) := by decide +kernel
theorem d_F_at_5 : decode b_F_at 5 = .ok (.ifCond .eq 12, 3) := by decide +kernel
theorem d_F_at_8 : decode b_F_at 8 = .ok (.iload_n 2, 1) := by decide +kernel
theorem d_F_at_9 : decode b_F_at 9 = .ok (.iconst 0, 1) := by decide +kernel
theorem d_F_at_10 : decode b_F_at 10 = .ok (.iconst 4, 1) := by decide +kernel
theorem d_F_at_11 : decode b_F_at 11 = .ok (.invokestatic 54, 3) := by decide +kernel
theorem d_F_at_14 : decode b_F_at 14 = .ok (.ifCond .ne 13, 3) := by decide +kernel
theorem d_F_at_17 : decode b_F_at 17 = .ok (.new 74, 3) := by decide +kernel
theorem d_F_at_20 : decode b_F_at 20 = .ok (.dup, 1) := by decide +kernel
theorem d_F_at_21 : decode b_F_at 21 = .ok (.ldc 206, 2) := by decide +kernel
theorem d_F_at_23 : decode b_F_at 23 = .ok (.invokespecial 78, 3) := by decide +kernel
theorem d_F_at_26 : decode b_F_at 26 = .ok (.athrow, 1) := by decide +kernel
theorem d_F_at_27 : decode b_F_at 27 = .ok (.iload_n 2, 1) := by decide +kernel
theorem d_F_at_28 : decode b_F_at 28 = .ok (.tableswitch 101 0 3 #[32, 42, 52, 62], 32) := by decide +kernel
theorem d_F_at_60 : decode b_F_at 60 = .ok (.aload_n 0, 1) := by decide +kernel
theorem d_F_at_61 : decode b_F_at 61 = .ok (.getfield 19, 3) := by decide +kernel
theorem d_F_at_64 : decode b_F_at 64 = .ok (.getfield 208, 3) := by decide +kernel
theorem d_F_at_67 : decode b_F_at 67 = .ok (.iload_n 1, 1) := by decide +kernel
theorem d_F_at_68 : decode b_F_at 68 = .ok (.iaload, 1) := by decide +kernel
theorem d_F_at_69 : decode b_F_at 69 = .ok (.ireturn, 1) := by decide +kernel
theorem d_F_at_70 : decode b_F_at 70 = .ok (.aload_n 0, 1) := by decide +kernel
theorem d_F_at_71 : decode b_F_at 71 = .ok (.getfield 19, 3) := by decide +kernel
theorem d_F_at_74 : decode b_F_at 74 = .ok (.getfield 211, 3) := by decide +kernel
theorem d_F_at_77 : decode b_F_at 77 = .ok (.iload_n 1, 1) := by decide +kernel
theorem d_F_at_78 : decode b_F_at 78 = .ok (.iaload, 1) := by decide +kernel
theorem d_F_at_79 : decode b_F_at 79 = .ok (.ireturn, 1) := by decide +kernel
theorem d_F_at_80 : decode b_F_at 80 = .ok (.aload_n 0, 1) := by decide +kernel
theorem d_F_at_81 : decode b_F_at 81 = .ok (.getfield 19, 3) := by decide +kernel
theorem d_F_at_84 : decode b_F_at 84 = .ok (.getfield 109, 3) := by decide +kernel
theorem d_F_at_87 : decode b_F_at 87 = .ok (.iload_n 1, 1) := by decide +kernel
theorem d_F_at_88 : decode b_F_at 88 = .ok (.iaload, 1) := by decide +kernel
theorem d_F_at_89 : decode b_F_at 89 = .ok (.ireturn, 1) := by decide +kernel
theorem d_F_at_90 : decode b_F_at 90 = .ok (.aload_n 0, 1) := by decide +kernel
theorem d_F_at_91 : decode b_F_at 91 = .ok (.getfield 13, 3) := by decide +kernel
theorem d_F_at_94 : decode b_F_at 94 = .ok (.aload_n 0, 1) := by decide +kernel
theorem d_F_at_95 : decode b_F_at 95 = .ok (.getfield 19, 3) := by decide +kernel
theorem d_F_at_98 : decode b_F_at 98 = .ok (.iload_n 1, 1) := by decide +kernel
theorem d_F_at_99 : decode b_F_at 99 = .ok (.aload_n 0, 1) := by decide +kernel
theorem d_F_at_100 : decode b_F_at 100 = .ok (.getfield 19, 3) := by decide +kernel
theorem d_F_at_103 : decode b_F_at 103 = .ok (.getfield 208, 3) := by decide +kernel
theorem d_F_at_106 : decode b_F_at 106 = .ok (.iload_n 1, 1) := by decide +kernel
theorem d_F_at_107 : decode b_F_at 107 = .ok (.iaload, 1) := by decide +kernel
theorem d_F_at_108 : decode b_F_at 108 = .ok (.aload_n 0, 1) := by decide +kernel
theorem d_F_at_109 : decode b_F_at 109 = .ok (.getfield 19, 3) := by decide +kernel
theorem d_F_at_112 : decode b_F_at 112 = .ok (.getfield 211, 3) := by decide +kernel
theorem d_F_at_115 : decode b_F_at 115 = .ok (.iload_n 1, 1) := by decide +kernel
theorem d_F_at_116 : decode b_F_at 116 = .ok (.iaload, 1) := by decide +kernel
theorem d_F_at_117 : decode b_F_at 117 = .ok (.invokevirtual 153, 3) := by decide +kernel
theorem d_F_at_120 : decode b_F_at 120 = .ok (.ifCond .eq 7, 3) := by decide +kernel
theorem d_F_at_123 : decode b_F_at 123 = .ok (.iconst 1, 1) := by decide +kernel
theorem d_F_at_124 : decode b_F_at 124 = .ok (.goto 4, 3) := by decide +kernel
theorem d_F_at_127 : decode b_F_at 127 = .ok (.iconst 0, 1) := by decide +kernel
theorem d_F_at_128 : decode b_F_at 128 = .ok (.ireturn, 1) := by decide +kernel
theorem d_F_at_129 : decode b_F_at 129 = .ok (.aload_n 0, 1) := by decide +kernel
theorem d_F_at_130 : decode b_F_at 130 = .ok (.getfield 13, 3) := by decide +kernel
theorem d_F_at_133 : decode b_F_at 133 = .ok (.aload_n 0, 1) := by decide +kernel
theorem d_F_at_134 : decode b_F_at 134 = .ok (.getfield 19, 3) := by decide +kernel
theorem d_F_at_137 : decode b_F_at 137 = .ok (.iload_n 1, 1) := by decide +kernel
theorem d_F_at_138 : decode b_F_at 138 = .ok (.invokevirtual 145, 3) := by decide +kernel
theorem d_F_at_141 : decode b_F_at 141 = .ok (.ifCond .eq 7, 3) := by decide +kernel
theorem d_F_at_144 : decode b_F_at 144 = .ok (.iconst 1, 1) := by decide +kernel
theorem d_F_at_145 : decode b_F_at 145 = .ok (.goto 4, 3) := by decide +kernel
theorem d_F_at_148 : decode b_F_at 148 = .ok (.iconst 0, 1) := by decide +kernel
theorem d_F_at_149 : decode b_F_at 149 = .ok (.ireturn, 1) := by decide +kernel
theorem d_F_cost_0 : decode b_F_cost 0 = .ok (.iconst 0, 1) := by decide +kernel
theorem d_F_cost_1 : decode b_F_cost 1 = .ok (.istore_n 1, 1) := by decide +kernel
theorem d_F_cost_2 : decode b_F_cost 2 = .ok (.iconst 0, 1) := by decide +kernel
theorem d_F_cost_3 : decode b_F_cost 3 = .ok (.istore_n 2, 1) := by decide +kernel
theorem d_F_cost_4 : decode b_F_cost 4 = .ok (.iload_n 2, 1) := by decide +kernel
theorem d_F_cost_5 : decode b_F_cost 5 = .ok (.aload_n 0, 1) := by decide +kernel
theorem d_F_cost_6 : decode b_F_cost 6 = .ok (.getfield 13, 3) := by decide +kernel
theorem d_F_cost_9 : decode b_F_cost 9 = .ok (.getfield 79, 3) := by decide +kernel
theorem d_F_cost_12 : decode b_F_cost 12 = .ok (.if_icmp .ge 38, 3) := by decide +kernel
theorem d_F_cost_15 : decode b_F_cost 15 = .ok (.iload_n 1, 1) := by decide +kernel
theorem d_F_cost_16 : decode b_F_cost 16 = .ok (.aload_n 0, 1) := by decide +kernel
theorem d_F_cost_17 : decode b_F_cost 17 = .ok (.getfield 13, 3) := by decide +kernel
theorem d_F_cost_20 : decode b_F_cost 20 = .ok (.iload_n 2, 1) := by decide +kernel
theorem d_F_cost_21 : decode b_F_cost 21 = .ok (.aload_n 0, 1) := by decide +kernel
theorem d_F_cost_22 : decode b_F_cost 22 = .ok (.getfield 19, 3) := by decide +kernel
theorem d_F_cost_25 : decode b_F_cost 25 = .ok (.getfield 109, 3) := by decide +kernel
theorem d_F_cost_28 : decode b_F_cost 28 = .ok (.iload_n 2, 1) := by decide +kernel
theorem d_F_cost_29 : decode b_F_cost 29 = .ok (.iaload, 1) := by decide +kernel
theorem d_F_cost_30 : decode b_F_cost 30 = .ok (.aload_n 0, 1) := by decide +kernel
theorem d_F_cost_31 : decode b_F_cost 31 = .ok (.getfield 19, 3) := by decide +kernel
theorem d_F_cost_34 : decode b_F_cost 34 = .ok (.getfield 211, 3) := by decide +kernel
theorem d_F_cost_37 : decode b_F_cost 37 = .ok (.iload_n 2, 1) := by decide +kernel
theorem d_F_cost_38 : decode b_F_cost 38 = .ok (.iaload, 1) := by decide +kernel
theorem d_F_cost_39 : decode b_F_cost 39 = .ok (.invokevirtual 213, 3) := by decide +kernel
theorem d_F_cost_42 : decode b_F_cost 42 = .ok (.iadd, 1) := by decide +kernel
theorem d_F_cost_43 : decode b_F_cost 43 = .ok (.istore_n 1, 1) := by decide +kernel
theorem d_F_cost_44 : decode b_F_cost 44 = .ok (.iinc 2 1, 3) := by decide +kernel
theorem d_F_cost_47 : decode b_F_cost 47 = .ok (.goto (-43), 3) := by decide +kernel
theorem d_F_cost_50 : decode b_F_cost 50 = .ok (.iload_n 1, 1) := by decide +kernel
theorem d_F_cost_51 : decode b_F_cost 51 = .ok (.ireturn, 1) := by decide +kernel
theorem d_F_on_0 : decode b_F_on 0 = .ok (.iload_n 1, 1) := by decide +kernel
theorem d_F_on_1 : decode b_F_on 1 = .ok (.invokestatic 71, 3) := by decide +kernel
theorem d_F_on_4 : decode b_F_on 4 = .ok (.ifCond .ne 13, 3) := by decide +kernel
theorem d_F_on_7 : decode b_F_on 7 = .ok (.new 74, 3) := by decide +kernel
theorem d_F_on_10 : decode b_F_on 10 = .ok (.dup, 1) := by decide +kernel
theorem d_F_on_11 : decode b_F_on 11 = .ok (.ldc 116, 2) := by decide +kernel
theorem d_F_on_13 : decode b_F_on 13 = .ok (.invokespecial 78, 3) := by decide +kernel
theorem d_F_on_16 : decode b_F_on 16 = .ok (.athrow, 1) := by decide +kernel
theorem d_F_on_17 : decode b_F_on 17 = .ok (.iload_n 2, 1) := by decide +kernel
theorem d_F_on_18 : decode b_F_on 18 = .ok (.invokestatic 84, 3) := by decide +kernel
theorem d_F_on_21 : decode b_F_on 21 = .ok (.ifCond .ne 13, 3) := by decide +kernel
theorem d_F_on_24 : decode b_F_on 24 = .ok (.new 58, 3) := by decide +kernel
theorem d_F_on_27 : decode b_F_on 27 = .ok (.dup, 1) := by decide +kernel
theorem d_F_on_28 : decode b_F_on 28 = .ok (.ldc 151, 2) := by decide +kernel
theorem d_F_on_30 : decode b_F_on 30 = .ok (.invokespecial 62, 3) := by decide +kernel
theorem d_F_on_33 : decode b_F_on 33 = .ok (.athrow, 1) := by decide +kernel
theorem d_F_on_34 : decode b_F_on 34 = .ok (.iconst 0, 1) := by decide +kernel
theorem d_F_on_35 : decode b_F_on 35 = .ok (.istore_n 3, 1) := by decide +kernel
theorem d_F_on_36 : decode b_F_on 36 = .ok (.iload_n 3, 1) := by decide +kernel
theorem d_F_on_37 : decode b_F_on 37 = .ok (.aload_n 0, 1) := by decide +kernel
theorem d_F_on_38 : decode b_F_on 38 = .ok (.getfield 13, 3) := by decide +kernel
theorem d_F_on_41 : decode b_F_on 41 = .ok (.getfield 79, 3) := by decide +kernel
theorem d_F_on_44 : decode b_F_on 44 = .ok (.if_icmp .ge 57, 3) := by decide +kernel
theorem d_F_on_47 : decode b_F_on 47 = .ok (.aload_n 0, 1) := by decide +kernel
theorem d_F_on_48 : decode b_F_on 48 = .ok (.getfield 19, 3) := by decide +kernel
theorem d_F_on_51 : decode b_F_on 51 = .ok (.getfield 211, 3) := by decide +kernel
theorem d_F_on_54 : decode b_F_on 54 = .ok (.iload_n 3, 1) := by decide +kernel
theorem d_F_on_55 : decode b_F_on 55 = .ok (.iaload, 1) := by decide +kernel
theorem d_F_on_56 : decode b_F_on 56 = .ok (.istore 4, 2) := by decide +kernel
theorem d_F_on_58 : decode b_F_on 58 = .ok (.aload_n 0, 1) := by decide +kernel
theorem d_F_on_59 : decode b_F_on 59 = .ok (.getfield 19, 3) := by decide +kernel
theorem d_F_on_62 : decode b_F_on 62 = .ok (.getfield 208, 3) := by decide +kernel
theorem d_F_on_65 : decode b_F_on 65 = .ok (.iload_n 3, 1) := by decide +kernel
theorem d_F_on_66 : decode b_F_on 66 = .ok (.iaload, 1) := by decide +kernel
theorem d_F_on_67 : decode b_F_on 67 = .ok (.iload_n 1, 1) := by decide +kernel
theorem d_F_on_68 : decode b_F_on 68 = .ok (.if_icmp .ne 27, 3) := by decide +kernel
theorem d_F_on_71 : decode b_F_on 71 = .ok (.iload 4, 2) := by decide +kernel
theorem d_F_on_73 : decode b_F_on 73 = .ok (.iload_n 2, 1) := by decide +kernel
theorem d_F_on_74 : decode b_F_on 74 = .ok (.if_icmp .gt 21, 3) := by decide +kernel
theorem d_F_on_77 : decode b_F_on 77 = .ok (.iload_n 2, 1) := by decide +kernel
theorem d_F_on_78 : decode b_F_on 78 = .ok (.iload 4, 2) := by decide +kernel
theorem d_F_on_80 : decode b_F_on 80 = .ok (.aload_n 0, 1) := by decide +kernel
theorem d_F_on_81 : decode b_F_on 81 = .ok (.getfield 13, 3) := by decide +kernel
theorem d_F_on_84 : decode b_F_on 84 = .ok (.getfield 216, 3) := by decide +kernel
theorem d_F_on_87 : decode b_F_on 87 = .ok (.iload_n 3, 1) := by decide +kernel
theorem d_F_on_88 : decode b_F_on 88 = .ok (.iaload, 1) := by decide +kernel
theorem d_F_on_89 : decode b_F_on 89 = .ok (.iadd, 1) := by decide +kernel
theorem d_F_on_90 : decode b_F_on 90 = .ok (.if_icmp .ge 5, 3) := by decide +kernel
theorem d_F_on_93 : decode b_F_on 93 = .ok (.iload_n 3, 1) := by decide +kernel
theorem d_F_on_94 : decode b_F_on 94 = .ok (.ireturn, 1) := by decide +kernel
theorem d_F_on_95 : decode b_F_on 95 = .ok (.iinc 3 1, 3) := by decide +kernel
theorem d_F_on_98 : decode b_F_on 98 = .ok (.goto (-62), 3) := by decide +kernel
theorem d_F_on_101 : decode b_F_on 101 = .ok (.iconst (-1), 1) := by decide +kernel
theorem d_F_on_102 : decode b_F_on 102 = .ok (.ireturn, 1) := by decide +kernel
theorem d_F_keep_0 : decode b_F_keep 0 = .ok (.iload_n 1, 1) := by decide +kernel
theorem d_F_keep_1 : decode b_F_keep 1 = .ok (.invokestatic 219, 3) := by decide +kernel
theorem d_F_keep_4 : decode b_F_keep 4 = .ok (.ifCond .ne 13, 3) := by decide +kernel
theorem d_F_keep_7 : decode b_F_keep 7 = .ok (.new 74, 3) := by decide +kernel
theorem d_F_keep_10 : decode b_F_keep 10 = .ok (.dup, 1) := by decide +kernel
theorem d_F_keep_11 : decode b_F_keep 11 = .ok (.ldc 222, 2) := by decide +kernel
theorem d_F_keep_13 : decode b_F_keep 13 = .ok (.invokespecial 78, 3) := by decide +kernel
theorem d_F_keep_16 : decode b_F_keep 16 = .ok (.athrow, 1) := by decide +kernel
theorem d_F_keep_17 : decode b_F_keep 17 = .ok (.aload_n 0, 1) := by decide +kernel
theorem d_F_keep_18 : decode b_F_keep 18 = .ok (.getfield 26, 3) := by decide +kernel
theorem d_F_keep_21 : decode b_F_keep 21 = .ok (.iload_n 1, 1) := by decide +kernel
theorem d_F_keep_22 : decode b_F_keep 22 = .ok (.aaload, 1) := by decide +kernel
theorem d_F_keep_23 : decode b_F_keep 23 = .ok (.aload_n 0, 1) := by decide +kernel
theorem d_F_keep_24 : decode b_F_keep 24 = .ok (.getfield 19, 3) := by decide +kernel
theorem d_F_keep_27 : decode b_F_keep 27 = .ok (.invokevirtual 186, 3) := by decide +kernel
theorem d_F_keep_30 : decode b_F_keep 30 = .ok (.aload_n 0, 1) := by decide +kernel
theorem d_F_keep_31 : decode b_F_keep 31 = .ok (.getfield 30, 3) := by decide +kernel
theorem d_F_keep_34 : decode b_F_keep 34 = .ok (.iload_n 1, 1) := by decide +kernel
theorem d_F_keep_35 : decode b_F_keep 35 = .ok (.iconst 1, 1) := by decide +kernel
theorem d_F_keep_36 : decode b_F_keep 36 = .ok (.bastore, 1) := by decide +kernel
theorem d_F_keep_37 : decode b_F_keep 37 = .ok (.return_, 1) := by decide +kernel
theorem d_F_compare_0 : decode b_F_compare 0 = .ok (.iload_n 1, 1) := by decide +kernel
theorem d_F_compare_1 : decode b_F_compare 1 = .ok (.invokestatic 219, 3) := by decide +kernel
theorem d_F_compare_4 : decode b_F_compare 4 = .ok (.ifCond .ne 13, 3) := by decide +kernel
theorem d_F_compare_7 : decode b_F_compare 7 = .ok (.new 74, 3) := by decide +kernel
theorem d_F_compare_10 : decode b_F_compare 10 = .ok (.dup, 1) := by decide +kernel
theorem d_F_compare_11 : decode b_F_compare 11 = .ok (.ldc 222, 2) := by decide +kernel
theorem d_F_compare_13 : decode b_F_compare 13 = .ok (.invokespecial 78, 3) := by decide +kernel
theorem d_F_compare_16 : decode b_F_compare 16 = .ok (.athrow, 1) := by decide +kernel
theorem d_F_compare_17 : decode b_F_compare 17 = .ok (.aload_n 0, 1) := by decide +kernel
theorem d_F_compare_18 : decode b_F_compare 18 = .ok (.getfield 30, 3) := by decide +kernel
theorem d_F_compare_21 : decode b_F_compare 21 = .ok (.iload_n 1, 1) := by decide +kernel
theorem d_F_compare_22 : decode b_F_compare 22 = .ok (.baload, 1) := by decide +kernel
theorem d_F_compare_23 : decode b_F_compare 23 = .ok (.ifCond .ne 13, 3) := by decide +kernel
theorem d_F_compare_26 : decode b_F_compare 26 = .ok (.new 47, 3) := by decide +kernel
theorem d_F_compare_29 : decode b_F_compare 29 = .ok (.dup, 1) := by decide +kernel
theorem d_F_compare_30 : decode b_F_compare 30 = .ok (.ldc 224, 2) := by decide +kernel
theorem d_F_compare_32 : decode b_F_compare 32 = .ok (.invokespecial 51, 3) := by decide +kernel
theorem d_F_compare_35 : decode b_F_compare 35 = .ok (.athrow, 1) := by decide +kernel
theorem d_F_compare_36 : decode b_F_compare 36 = .ok (.iconst 0, 1) := by decide +kernel
theorem d_F_compare_37 : decode b_F_compare 37 = .ok (.istore_n 2, 1) := by decide +kernel
theorem d_F_compare_38 : decode b_F_compare 38 = .ok (.iconst 0, 1) := by decide +kernel
theorem d_F_compare_39 : decode b_F_compare 39 = .ok (.istore_n 3, 1) := by decide +kernel
theorem d_F_compare_40 : decode b_F_compare 40 = .ok (.iload_n 3, 1) := by decide +kernel
theorem d_F_compare_41 : decode b_F_compare 41 = .ok (.aload_n 0, 1) := by decide +kernel
theorem d_F_compare_42 : decode b_F_compare 42 = .ok (.getfield 13, 3) := by decide +kernel
theorem d_F_compare_45 : decode b_F_compare 45 = .ok (.getfield 79, 3) := by decide +kernel
theorem d_F_compare_48 : decode b_F_compare 48 = .ok (.if_icmp .ge 29, 3) := by decide +kernel
theorem d_F_compare_51 : decode b_F_compare 51 = .ok (.aload_n 0, 1) := by decide +kernel
theorem d_F_compare_52 : decode b_F_compare 52 = .ok (.getfield 19, 3) := by decide +kernel
theorem d_F_compare_55 : decode b_F_compare 55 = .ok (.aload_n 0, 1) := by decide +kernel
theorem d_F_compare_56 : decode b_F_compare 56 = .ok (.getfield 26, 3) := by decide +kernel
theorem d_F_compare_59 : decode b_F_compare 59 = .ok (.iload_n 1, 1) := by decide +kernel
theorem d_F_compare_60 : decode b_F_compare 60 = .ok (.aaload, 1) := by decide +kernel
theorem d_F_compare_61 : decode b_F_compare 61 = .ok (.iload_n 3, 1) := by decide +kernel
theorem d_F_compare_62 : decode b_F_compare 62 = .ok (.invokevirtual 226, 3) := by decide +kernel
theorem d_F_compare_65 : decode b_F_compare 65 = .ok (.ifCond .ne 6, 3) := by decide +kernel
theorem d_F_compare_68 : decode b_F_compare 68 = .ok (.iinc 2 1, 3) := by decide +kernel
theorem d_F_compare_71 : decode b_F_compare 71 = .ok (.iinc 3 1, 3) := by decide +kernel
theorem d_F_compare_74 : decode b_F_compare 74 = .ok (.goto (-34), 3) := by decide +kernel
theorem d_F_compare_77 : decode b_F_compare 77 = .ok (.iload_n 2, 1) := by decide +kernel
theorem d_F_compare_78 : decode b_F_compare 78 = .ok (.ireturn, 1) := by decide +kernel
theorem d_F_use_0 : decode b_F_use 0 = .ok (.iload_n 1, 1) := by decide +kernel
theorem d_F_use_1 : decode b_F_use 1 = .ok (.invokestatic 219, 3) := by decide +kernel
theorem d_F_use_4 : decode b_F_use 4 = .ok (.ifCond .ne 13, 3) := by decide +kernel
theorem d_F_use_7 : decode b_F_use 7 = .ok (.new 74, 3) := by decide +kernel
theorem d_F_use_10 : decode b_F_use 10 = .ok (.dup, 1) := by decide +kernel
theorem d_F_use_11 : decode b_F_use 11 = .ok (.ldc 222, 2) := by decide +kernel
theorem d_F_use_13 : decode b_F_use 13 = .ok (.invokespecial 78, 3) := by decide +kernel
theorem d_F_use_16 : decode b_F_use 16 = .ok (.athrow, 1) := by decide +kernel
theorem d_F_use_17 : decode b_F_use 17 = .ok (.aload_n 0, 1) := by decide +kernel
theorem d_F_use_18 : decode b_F_use 18 = .ok (.getfield 30, 3) := by decide +kernel
theorem d_F_use_21 : decode b_F_use 21 = .ok (.iload_n 1, 1) := by decide +kernel
theorem d_F_use_22 : decode b_F_use 22 = .ok (.baload, 1) := by decide +kernel
theorem d_F_use_23 : decode b_F_use 23 = .ok (.ifCond .ne 13, 3) := by decide +kernel
theorem d_F_use_26 : decode b_F_use 26 = .ok (.new 47, 3) := by decide +kernel
theorem d_F_use_29 : decode b_F_use 29 = .ok (.dup, 1) := by decide +kernel
theorem d_F_use_30 : decode b_F_use 30 = .ok (.ldc 224, 2) := by decide +kernel
theorem d_F_use_32 : decode b_F_use 32 = .ok (.invokespecial 51, 3) := by decide +kernel
theorem d_F_use_35 : decode b_F_use 35 = .ok (.athrow, 1) := by decide +kernel
theorem d_F_use_36 : decode b_F_use 36 = .ok (.aload_n 0, 1) := by decide +kernel
theorem d_F_use_37 : decode b_F_use 37 = .ok (.invokevirtual 159, 3) := by decide +kernel
theorem d_F_use_40 : decode b_F_use 40 = .ok (.aload_n 0, 1) := by decide +kernel
theorem d_F_use_41 : decode b_F_use 41 = .ok (.getfield 19, 3) := by decide +kernel
theorem d_F_use_44 : decode b_F_use 44 = .ok (.aload_n 0, 1) := by decide +kernel
theorem d_F_use_45 : decode b_F_use 45 = .ok (.getfield 26, 3) := by decide +kernel
theorem d_F_use_48 : decode b_F_use 48 = .ok (.iload_n 1, 1) := by decide +kernel
theorem d_F_use_49 : decode b_F_use 49 = .ok (.aaload, 1) := by decide +kernel
theorem d_F_use_50 : decode b_F_use 50 = .ok (.invokevirtual 186, 3) := by decide +kernel
theorem d_F_use_53 : decode b_F_use 53 = .ok (.return_, 1) := by decide +kernel
theorem d_F_undo_0 : decode b_F_undo 0 = .ok (.aload_n 0, 1) := by decide +kernel
theorem d_F_undo_1 : decode b_F_undo 1 = .ok (.getfield 229, 3) := by decide +kernel
theorem d_F_undo_4 : decode b_F_undo 4 = .ok (.ifCond .ne 13, 3) := by decide +kernel
theorem d_F_undo_7 : decode b_F_undo 7 = .ok (.new 47, 3) := by decide +kernel
theorem d_F_undo_10 : decode b_F_undo 10 = .ok (.dup, 1) := by decide +kernel
theorem d_F_undo_11 : decode b_F_undo 11 = .ok (.ldc 232, 2) := by decide +kernel
theorem d_F_undo_13 : decode b_F_undo 13 = .ok (.invokespecial 51, 3) := by decide +kernel
theorem d_F_undo_16 : decode b_F_undo 16 = .ok (.athrow, 1) := by decide +kernel
theorem d_F_undo_17 : decode b_F_undo 17 = .ok (.aload_n 0, 1) := by decide +kernel
theorem d_F_undo_18 : decode b_F_undo 18 = .ok (.getfield 19, 3) := by decide +kernel
theorem d_F_undo_21 : decode b_F_undo 21 = .ok (.aload_n 0, 1) := by decide +kernel
theorem d_F_undo_22 : decode b_F_undo 22 = .ok (.getfield 23, 3) := by decide +kernel
theorem d_F_undo_25 : decode b_F_undo 25 = .ok (.invokevirtual 186, 3) := by decide +kernel
theorem d_F_undo_28 : decode b_F_undo 28 = .ok (.aload_n 0, 1) := by decide +kernel
theorem d_F_undo_29 : decode b_F_undo 29 = .ok (.iconst 0, 1) := by decide +kernel
theorem d_F_undo_30 : decode b_F_undo 30 = .ok (.putfield 229, 3) := by decide +kernel
theorem d_F_undo_33 : decode b_F_undo 33 = .ok (.return_, 1) := by decide +kernel
theorem d_F_rememberForUndo_0 : decode b_F_rememberForUndo 0 = .ok (.aload_n 0, 1) := by decide +kernel
theorem d_F_rememberForUndo_1 : decode b_F_rememberForUndo 1 = .ok (.getfield 23, 3) := by decide +kernel
theorem d_F_rememberForUndo_4 : decode b_F_rememberForUndo 4 = .ok (.aload_n 0, 1) := by decide +kernel
theorem d_F_rememberForUndo_5 : decode b_F_rememberForUndo 5 = .ok (.getfield 19, 3) := by decide +kernel
theorem d_F_rememberForUndo_8 : decode b_F_rememberForUndo 8 = .ok (.invokevirtual 186, 3) := by decide +kernel
theorem d_F_rememberForUndo_11 : decode b_F_rememberForUndo 11 = .ok (.aload_n 0, 1) := by decide +kernel
theorem d_F_rememberForUndo_12 : decode b_F_rememberForUndo 12 = .ok (.iconst 1, 1) := by decide +kernel
theorem d_F_rememberForUndo_13 : decode b_F_rememberForUndo 13 = .ok (.putfield 229, 3) := by decide +kernel
theorem d_F_rememberForUndo_16 : decode b_F_rememberForUndo 16 = .ok (.return_, 1) := by decide +kernel
theorem d_F_forgetCopiesAndUndo_0 : decode b_F_forgetCopiesAndUndo 0 = .ok (.aload_n 0, 1) := by decide +kernel
theorem d_F_forgetCopiesAndUndo_1 : decode b_F_forgetCopiesAndUndo 1 = .ok (.iconst 0, 1) := by decide +kernel
theorem d_F_forgetCopiesAndUndo_2 : decode b_F_forgetCopiesAndUndo 2 = .ok (.putfield 229, 3) := by decide +kernel
theorem d_F_forgetCopiesAndUndo_5 : decode b_F_forgetCopiesAndUndo 5 = .ok (.iconst 0, 1) := by decide +kernel
theorem d_F_forgetCopiesAndUndo_6 : decode b_F_forgetCopiesAndUndo 6 = .ok (.istore_n 1, 1) := by decide +kernel
theorem d_F_forgetCopiesAndUndo_7 : decode b_F_forgetCopiesAndUndo 7 = .ok (.iload_n 1, 1) := by decide +kernel
theorem d_F_forgetCopiesAndUndo_8 : decode b_F_forgetCopiesAndUndo 8 = .ok (.iconst 4, 1) := by decide +kernel
theorem d_F_forgetCopiesAndUndo_9 : decode b_F_forgetCopiesAndUndo 9 = .ok (.if_icmp .ge 16, 3) := by decide +kernel
theorem d_F_forgetCopiesAndUndo_12 : decode b_F_forgetCopiesAndUndo 12 = .ok (.aload_n 0, 1) := by decide +kernel
theorem d_F_forgetCopiesAndUndo_13 : decode b_F_forgetCopiesAndUndo 13 = .ok (.getfield 30, 3) := by decide +kernel
theorem d_F_forgetCopiesAndUndo_16 : decode b_F_forgetCopiesAndUndo 16 = .ok (.iload_n 1, 1) := by decide +kernel
theorem d_F_forgetCopiesAndUndo_17 : decode b_F_forgetCopiesAndUndo 17 = .ok (.iconst 0, 1) := by decide +kernel
theorem d_F_forgetCopiesAndUndo_18 : decode b_F_forgetCopiesAndUndo 18 = .ok (.bastore, 1) := by decide +kernel
theorem d_F_forgetCopiesAndUndo_19 : decode b_F_forgetCopiesAndUndo 19 = .ok (.iinc 1 1, 3) := by decide +kernel
theorem d_F_forgetCopiesAndUndo_22 : decode b_F_forgetCopiesAndUndo 22 = .ok (.goto (-15), 3) := by decide +kernel
theorem d_F_forgetCopiesAndUndo_25 : decode b_F_forgetCopiesAndUndo 25 = .ok (.return_, 1) := by decide +kernel
theorem d_F_isOrder_0 : decode b_F_isOrder 0 = .ok (.iload_n 1, 1) := by decide +kernel
theorem d_F_isOrder_1 : decode b_F_isOrder 1 = .ok (.iconst 0, 1) := by decide +kernel
theorem d_F_isOrder_2 : decode b_F_isOrder 2 = .ok (.aload_n 0, 1) := by decide +kernel
theorem d_F_isOrder_3 : decode b_F_isOrder 3 = .ok (.getfield 13, 3) := by decide +kernel
theorem d_F_isOrder_6 : decode b_F_isOrder 6 = .ok (.getfield 43, 3) := by decide +kernel
theorem d_F_isOrder_9 : decode b_F_isOrder 9 = .ok (.iconst 1, 1) := by decide +kernel
theorem d_F_isOrder_10 : decode b_F_isOrder 10 = .ok (.isub, 1) := by decide +kernel
theorem d_F_isOrder_11 : decode b_F_isOrder 11 = .ok (.invokestatic 54, 3) := by decide +kernel
theorem d_F_isOrder_14 : decode b_F_isOrder 14 = .ok (.ireturn, 1) := by decide +kernel
theorem d_F_isHeat_0 : decode b_F_isHeat 0 = .ok (.iload_n 1, 1) := by decide +kernel
theorem d_F_isHeat_1 : decode b_F_isHeat 1 = .ok (.iconst 0, 1) := by decide +kernel
theorem d_F_isHeat_2 : decode b_F_isHeat 2 = .ok (.aload_n 0, 1) := by decide +kernel
theorem d_F_isHeat_3 : decode b_F_isHeat 3 = .ok (.getfield 13, 3) := by decide +kernel
theorem d_F_isHeat_6 : decode b_F_isHeat 6 = .ok (.getfield 79, 3) := by decide +kernel
theorem d_F_isHeat_9 : decode b_F_isHeat 9 = .ok (.iconst 1, 1) := by decide +kernel
theorem d_F_isHeat_10 : decode b_F_isHeat 10 = .ok (.isub, 1) := by decide +kernel
theorem d_F_isHeat_11 : decode b_F_isHeat 11 = .ok (.invokestatic 54, 3) := by decide +kernel
theorem d_F_isHeat_14 : decode b_F_isHeat 14 = .ok (.ireturn, 1) := by decide +kernel
theorem d_F_isUnit_0 : decode b_F_isUnit 0 = .ok (.iload_n 0, 1) := by decide +kernel
theorem d_F_isUnit_1 : decode b_F_isUnit 1 = .ok (.iconst 0, 1) := by decide +kernel
theorem d_F_isUnit_2 : decode b_F_isUnit 2 = .ok (.iconst 2, 1) := by decide +kernel
theorem d_F_isUnit_3 : decode b_F_isUnit 3 = .ok (.invokestatic 54, 3) := by decide +kernel
theorem d_F_isUnit_6 : decode b_F_isUnit 6 = .ok (.ireturn, 1) := by decide +kernel
theorem d_F_isMinute_0 : decode b_F_isMinute 0 = .ok (.iload_n 0, 1) := by decide +kernel
theorem d_F_isMinute_1 : decode b_F_isMinute 1 = .ok (.iconst 0, 1) := by decide +kernel
theorem d_F_isMinute_2 : decode b_F_isMinute 2 = .ok (.bipush 59, 2) := by decide +kernel
theorem d_F_isMinute_4 : decode b_F_isMinute 4 = .ok (.invokestatic 54, 3) := by decide +kernel
theorem d_F_isMinute_7 : decode b_F_isMinute 7 = .ok (.ireturn, 1) := by decide +kernel
theorem d_F_isCopy_0 : decode b_F_isCopy 0 = .ok (.iload_n 0, 1) := by decide +kernel
theorem d_F_isCopy_1 : decode b_F_isCopy 1 = .ok (.iconst 0, 1) := by decide +kernel
theorem d_F_isCopy_2 : decode b_F_isCopy 2 = .ok (.iconst 3, 1) := by decide +kernel
theorem d_F_isCopy_3 : decode b_F_isCopy 3 = .ok (.invokestatic 54, 3) := by decide +kernel
theorem d_F_isCopy_6 : decode b_F_isCopy 6 = .ok (.ireturn, 1) := by decide +kernel
theorem d_F_isWithin_0 : decode b_F_isWithin 0 = .ok (.iload_n 0, 1) := by decide +kernel
theorem d_F_isWithin_1 : decode b_F_isWithin 1 = .ok (.iload_n 1, 1) := by decide +kernel
theorem d_F_isWithin_2 : decode b_F_isWithin 2 = .ok (.if_icmp .lt 12, 3) := by decide +kernel
theorem d_F_isWithin_5 : decode b_F_isWithin 5 = .ok (.iload_n 0, 1) := by decide +kernel
theorem d_F_isWithin_6 : decode b_F_isWithin 6 = .ok (.iload_n 2, 1) := by decide +kernel
theorem d_F_isWithin_7 : decode b_F_isWithin 7 = .ok (.if_icmp .gt 7, 3) := by decide +kernel
theorem d_F_isWithin_10 : decode b_F_isWithin 10 = .ok (.iconst 1, 1) := by decide +kernel
theorem d_F_isWithin_11 : decode b_F_isWithin 11 = .ok (.goto 4, 3) := by decide +kernel
theorem d_F_isWithin_14 : decode b_F_isWithin 14 = .ok (.iconst 0, 1) := by decide +kernel
theorem d_F_isWithin_15 : decode b_F_isWithin 15 = .ok (.ireturn, 1) := by decide +kernel
theorem d_F_mayTake_0 : decode b_F_mayTake 0 = .ok (.iload_n 0, 1) := by decide +kernel
theorem d_F_mayTake_1 : decode b_F_mayTake 1 = .ok (.iload_n 1, 1) := by decide +kernel
theorem d_F_mayTake_2 : decode b_F_mayTake 2 = .ok (.ishr, 1) := by decide +kernel
theorem d_F_mayTake_3 : decode b_F_mayTake 3 = .ok (.iconst 1, 1) := by decide +kernel
theorem d_F_mayTake_4 : decode b_F_mayTake 4 = .ok (.iand, 1) := by decide +kernel
theorem d_F_mayTake_5 : decode b_F_mayTake 5 = .ok (.iconst 1, 1) := by decide +kernel
theorem d_F_mayTake_6 : decode b_F_mayTake 6 = .ok (.if_icmp .ne 7, 3) := by decide +kernel
theorem d_F_mayTake_9 : decode b_F_mayTake 9 = .ok (.iconst 1, 1) := by decide +kernel
theorem d_F_mayTake_10 : decode b_F_mayTake 10 = .ok (.goto 4, 3) := by decide +kernel
theorem d_F_mayTake_13 : decode b_F_mayTake 13 = .ok (.iconst 0, 1) := by decide +kernel
theorem d_F_mayTake_14 : decode b_F_mayTake 14 = .ok (.ireturn, 1) := by decide +kernel
theorem d_F_minutesAsBits_0 : decode b_F_minutesAsBits 0 = .ok (.lconst 1, 1) := by decide +kernel
theorem d_F_minutesAsBits_1 : decode b_F_minutesAsBits 1 = .ok (.iload_n 1, 1) := by decide +kernel
theorem d_F_minutesAsBits_2 : decode b_F_minutesAsBits 2 = .ok (.lshl, 1) := by decide +kernel
theorem d_F_minutesAsBits_3 : decode b_F_minutesAsBits 3 = .ok (.lconst 1, 1) := by decide +kernel
theorem d_F_minutesAsBits_4 : decode b_F_minutesAsBits 4 = .ok (.lsub, 1) := by decide +kernel
theorem d_F_minutesAsBits_5 : decode b_F_minutesAsBits 5 = .ok (.iload_n 0, 1) := by decide +kernel
theorem d_F_minutesAsBits_6 : decode b_F_minutesAsBits 6 = .ok (.lshl, 1) := by decide +kernel
theorem d_F_minutesAsBits_7 : decode b_F_minutesAsBits 7 = .ok (.lreturn, 1) := by decide +kernel
theorem d_P_init_0 : decode b_P_init 0 = .ok (.aload_n 0, 1) := by decide +kernel
theorem d_P_init_1 : decode b_P_init 1 = .ok (.invokespecial 3, 3) := by decide +kernel
theorem d_P_init_4 : decode b_P_init 4 = .ok (.aload_n 0, 1) := by decide +kernel
theorem d_P_init_5 : decode b_P_init 5 = .ok (.bipush 6, 2) := by decide +kernel
theorem d_P_init_7 : decode b_P_init 7 = .ok (.newarray .int, 2) := by decide +kernel
theorem d_P_init_9 : decode b_P_init 9 = .ok (.putfield 9, 3) := by decide +kernel
theorem d_P_init_12 : decode b_P_init 12 = .ok (.aload_n 0, 1) := by decide +kernel
theorem d_P_init_13 : decode b_P_init 13 = .ok (.bipush 6, 2) := by decide +kernel
theorem d_P_init_15 : decode b_P_init 15 = .ok (.newarray .int, 2) := by decide +kernel
theorem d_P_init_17 : decode b_P_init 17 = .ok (.putfield 15, 3) := by decide +kernel
theorem d_P_init_20 : decode b_P_init 20 = .ok (.aload_n 0, 1) := by decide +kernel
theorem d_P_init_21 : decode b_P_init 21 = .ok (.bipush 6, 2) := by decide +kernel
theorem d_P_init_23 : decode b_P_init 23 = .ok (.newarray .int, 2) := by decide +kernel
theorem d_P_init_25 : decode b_P_init 25 = .ok (.putfield 18, 3) := by decide +kernel
theorem d_P_init_28 : decode b_P_init 28 = .ok (.return_, 1) := by decide +kernel
theorem d_P_put_0 : decode b_P_put 0 = .ok (.aload_n 0, 1) := by decide +kernel
theorem d_P_put_1 : decode b_P_put 1 = .ok (.getfield 9, 3) := by decide +kernel
theorem d_P_put_4 : decode b_P_put 4 = .ok (.iload_n 1, 1) := by decide +kernel
theorem d_P_put_5 : decode b_P_put 5 = .ok (.iload_n 2, 1) := by decide +kernel
theorem d_P_put_6 : decode b_P_put 6 = .ok (.iastore, 1) := by decide +kernel
theorem d_P_put_7 : decode b_P_put 7 = .ok (.aload_n 0, 1) := by decide +kernel
theorem d_P_put_8 : decode b_P_put 8 = .ok (.getfield 15, 3) := by decide +kernel
theorem d_P_put_11 : decode b_P_put 11 = .ok (.iload_n 1, 1) := by decide +kernel
theorem d_P_put_12 : decode b_P_put 12 = .ok (.iload_n 3, 1) := by decide +kernel
theorem d_P_put_13 : decode b_P_put 13 = .ok (.iastore, 1) := by decide +kernel
theorem d_P_put_14 : decode b_P_put 14 = .ok (.return_, 1) := by decide +kernel
theorem d_P_takeFrom_0 : decode b_P_takeFrom 0 = .ok (.iconst 0, 1) := by decide +kernel
theorem d_P_takeFrom_1 : decode b_P_takeFrom 1 = .ok (.istore_n 2, 1) := by decide +kernel
theorem d_P_takeFrom_2 : decode b_P_takeFrom 2 = .ok (.iload_n 2, 1) := by decide +kernel
theorem d_P_takeFrom_3 : decode b_P_takeFrom 3 = .ok (.bipush 6, 2) := by decide +kernel
theorem d_P_takeFrom_5 : decode b_P_takeFrom 5 = .ok (.if_icmp .ge 45, 3) := by decide +kernel
theorem d_P_takeFrom_8 : decode b_P_takeFrom 8 = .ok (.aload_n 0, 1) := by decide +kernel
theorem d_P_takeFrom_9 : decode b_P_takeFrom 9 = .ok (.getfield 9, 3) := by decide +kernel
theorem d_P_takeFrom_12 : decode b_P_takeFrom 12 = .ok (.iload_n 2, 1) := by decide +kernel
theorem d_P_takeFrom_13 : decode b_P_takeFrom 13 = .ok (.aload_n 1, 1) := by decide +kernel
theorem d_P_takeFrom_14 : decode b_P_takeFrom 14 = .ok (.getfield 9, 3) := by decide +kernel
theorem d_P_takeFrom_17 : decode b_P_takeFrom 17 = .ok (.iload_n 2, 1) := by decide +kernel
theorem d_P_takeFrom_18 : decode b_P_takeFrom 18 = .ok (.iaload, 1) := by decide +kernel
theorem d_P_takeFrom_19 : decode b_P_takeFrom 19 = .ok (.iastore, 1) := by decide +kernel
theorem d_P_takeFrom_20 : decode b_P_takeFrom 20 = .ok (.aload_n 0, 1) := by decide +kernel
theorem d_P_takeFrom_21 : decode b_P_takeFrom 21 = .ok (.getfield 15, 3) := by decide +kernel
theorem d_P_takeFrom_24 : decode b_P_takeFrom 24 = .ok (.iload_n 2, 1) := by decide +kernel
theorem d_P_takeFrom_25 : decode b_P_takeFrom 25 = .ok (.aload_n 1, 1) := by decide +kernel
theorem d_P_takeFrom_26 : decode b_P_takeFrom 26 = .ok (.getfield 15, 3) := by decide +kernel
theorem d_P_takeFrom_29 : decode b_P_takeFrom 29 = .ok (.iload_n 2, 1) := by decide +kernel
theorem d_P_takeFrom_30 : decode b_P_takeFrom 30 = .ok (.iaload, 1) := by decide +kernel
theorem d_P_takeFrom_31 : decode b_P_takeFrom 31 = .ok (.iastore, 1) := by decide +kernel
theorem d_P_takeFrom_32 : decode b_P_takeFrom 32 = .ok (.aload_n 0, 1) := by decide +kernel
theorem d_P_takeFrom_33 : decode b_P_takeFrom 33 = .ok (.getfield 18, 3) := by decide +kernel
theorem d_P_takeFrom_36 : decode b_P_takeFrom 36 = .ok (.iload_n 2, 1) := by decide +kernel
theorem d_P_takeFrom_37 : decode b_P_takeFrom 37 = .ok (.aload_n 1, 1) := by decide +kernel
theorem d_P_takeFrom_38 : decode b_P_takeFrom 38 = .ok (.getfield 18, 3) := by decide +kernel
theorem d_P_takeFrom_41 : decode b_P_takeFrom 41 = .ok (.iload_n 2, 1) := by decide +kernel
theorem d_P_takeFrom_42 : decode b_P_takeFrom 42 = .ok (.iaload, 1) := by decide +kernel
theorem d_P_takeFrom_43 : decode b_P_takeFrom 43 = .ok (.iastore, 1) := by decide +kernel
theorem d_P_takeFrom_44 : decode b_P_takeFrom 44 = .ok (.iinc 2 1, 3) := by decide +kernel
theorem d_P_takeFrom_47 : decode b_P_takeFrom 47 = .ok (.goto (-45), 3) := by decide +kernel
theorem d_P_takeFrom_50 : decode b_P_takeFrom 50 = .ok (.return_, 1) := by decide +kernel
theorem d_P_isAt_0 : decode b_P_isAt 0 = .ok (.aload_n 0, 1) := by decide +kernel
theorem d_P_isAt_1 : decode b_P_isAt 1 = .ok (.getfield 9, 3) := by decide +kernel
theorem d_P_isAt_4 : decode b_P_isAt 4 = .ok (.iload_n 1, 1) := by decide +kernel
theorem d_P_isAt_5 : decode b_P_isAt 5 = .ok (.iaload, 1) := by decide +kernel
theorem d_P_isAt_6 : decode b_P_isAt 6 = .ok (.iload_n 2, 1) := by decide +kernel
theorem d_P_isAt_7 : decode b_P_isAt 7 = .ok (.if_icmp .ne 17, 3) := by decide +kernel
theorem d_P_isAt_10 : decode b_P_isAt 10 = .ok (.aload_n 0, 1) := by decide +kernel
theorem d_P_isAt_11 : decode b_P_isAt 11 = .ok (.getfield 15, 3) := by decide +kernel
theorem d_P_isAt_14 : decode b_P_isAt 14 = .ok (.iload_n 1, 1) := by decide +kernel
theorem d_P_isAt_15 : decode b_P_isAt 15 = .ok (.iaload, 1) := by decide +kernel
theorem d_P_isAt_16 : decode b_P_isAt 16 = .ok (.iload_n 3, 1) := by decide +kernel
theorem d_P_isAt_17 : decode b_P_isAt 17 = .ok (.if_icmp .ne 7, 3) := by decide +kernel
theorem d_P_isAt_20 : decode b_P_isAt 20 = .ok (.iconst 1, 1) := by decide +kernel
theorem d_P_isAt_21 : decode b_P_isAt 21 = .ok (.goto 4, 3) := by decide +kernel
theorem d_P_isAt_24 : decode b_P_isAt 24 = .ok (.iconst 0, 1) := by decide +kernel
theorem d_P_isAt_25 : decode b_P_isAt 25 = .ok (.ireturn, 1) := by decide +kernel
theorem d_P_isSameIn_0 : decode b_P_isSameIn 0 = .ok (.aload_n 0, 1) := by decide +kernel
theorem d_P_isSameIn_1 : decode b_P_isSameIn 1 = .ok (.iload_n 2, 1) := by decide +kernel
theorem d_P_isSameIn_2 : decode b_P_isSameIn 2 = .ok (.aload_n 1, 1) := by decide +kernel
theorem d_P_isSameIn_3 : decode b_P_isSameIn 3 = .ok (.getfield 9, 3) := by decide +kernel
theorem d_P_isSameIn_6 : decode b_P_isSameIn 6 = .ok (.iload_n 2, 1) := by decide +kernel
theorem d_P_isSameIn_7 : decode b_P_isSameIn 7 = .ok (.iaload, 1) := by decide +kernel
theorem d_P_isSameIn_8 : decode b_P_isSameIn 8 = .ok (.aload_n 1, 1) := by decide +kernel
theorem d_P_isSameIn_9 : decode b_P_isSameIn 9 = .ok (.getfield 15, 3) := by decide +kernel
theorem d_P_isSameIn_12 : decode b_P_isSameIn 12 = .ok (.iload_n 2, 1) := by decide +kernel
theorem d_P_isSameIn_13 : decode b_P_isSameIn 13 = .ok (.iaload, 1) := by decide +kernel
theorem d_P_isSameIn_14 : decode b_P_isSameIn 14 = .ok (.invokevirtual 21, 3) := by decide +kernel
theorem d_P_isSameIn_17 : decode b_P_isSameIn 17 = .ok (.ifCond .eq 22, 3) := by decide +kernel
theorem d_P_isSameIn_20 : decode b_P_isSameIn 20 = .ok (.aload_n 0, 1) := by decide +kernel
theorem d_P_isSameIn_21 : decode b_P_isSameIn 21 = .ok (.getfield 18, 3) := by decide +kernel
theorem d_P_isSameIn_24 : decode b_P_isSameIn 24 = .ok (.iload_n 2, 1) := by decide +kernel
theorem d_P_isSameIn_25 : decode b_P_isSameIn 25 = .ok (.iaload, 1) := by decide +kernel
theorem d_P_isSameIn_26 : decode b_P_isSameIn 26 = .ok (.aload_n 1, 1) := by decide +kernel
theorem d_P_isSameIn_27 : decode b_P_isSameIn 27 = .ok (.getfield 18, 3) := by decide +kernel
theorem d_P_isSameIn_30 : decode b_P_isSameIn 30 = .ok (.iload_n 2, 1) := by decide +kernel
theorem d_P_isSameIn_31 : decode b_P_isSameIn 31 = .ok (.iaload, 1) := by decide +kernel
theorem d_P_isSameIn_32 : decode b_P_isSameIn 32 = .ok (.if_icmp .ne 7, 3) := by decide +kernel
theorem d_P_isSameIn_35 : decode b_P_isSameIn 35 = .ok (.iconst 1, 1) := by decide +kernel
theorem d_P_isSameIn_36 : decode b_P_isSameIn 36 = .ok (.goto 4, 3) := by decide +kernel
theorem d_P_isSameIn_39 : decode b_P_isSameIn 39 = .ok (.iconst 0, 1) := by decide +kernel
theorem d_P_isSameIn_40 : decode b_P_isSameIn 40 = .ok (.ireturn, 1) := by decide +kernel
theorem d_Q_init_0 : decode b_Q_init 0 = .ok (.aload_n 0, 1) := by decide +kernel
theorem d_Q_init_1 : decode b_Q_init 1 = .ok (.invokespecial 3, 3) := by decide +kernel
theorem d_Q_init_4 : decode b_Q_init 4 = .ok (.aload_n 0, 1) := by decide +kernel
theorem d_Q_init_5 : decode b_Q_init 5 = .ok (.aload_n 1, 1) := by decide +kernel
theorem d_Q_init_6 : decode b_Q_init 6 = .ok (.putfield 9, 3) := by decide +kernel
theorem d_Q_init_9 : decode b_Q_init 9 = .ok (.aload_n 0, 1) := by decide +kernel
theorem d_Q_init_10 : decode b_Q_init 10 = .ok (.aload_n 2, 1) := by decide +kernel
theorem d_Q_init_11 : decode b_Q_init 11 = .ok (.putfield 15, 3) := by decide +kernel
theorem d_Q_init_14 : decode b_Q_init 14 = .ok (.aload_n 0, 1) := by decide +kernel
theorem d_Q_init_15 : decode b_Q_init 15 = .ok (.new 19, 3) := by decide +kernel
theorem d_Q_init_18 : decode b_Q_init 18 = .ok (.dup, 1) := by decide +kernel
theorem d_Q_init_19 : decode b_Q_init 19 = .ok (.invokespecial 21, 3) := by decide +kernel
theorem d_Q_init_22 : decode b_Q_init 22 = .ok (.putfield 22, 3) := by decide +kernel
theorem d_Q_init_25 : decode b_Q_init 25 = .ok (.aload_n 0, 1) := by decide +kernel
theorem d_Q_init_26 : decode b_Q_init 26 = .ok (.new 19, 3) := by decide +kernel
theorem d_Q_init_29 : decode b_Q_init 29 = .ok (.dup, 1) := by decide +kernel
theorem d_Q_init_30 : decode b_Q_init 30 = .ok (.invokespecial 21, 3) := by decide +kernel
theorem d_Q_init_33 : decode b_Q_init 33 = .ok (.putfield 25, 3) := by decide +kernel
theorem d_Q_init_36 : decode b_Q_init 36 = .ok (.aload_n 0, 1) := by decide +kernel
theorem d_Q_init_37 : decode b_Q_init 37 = .ok (.iconst 3, 1) := by decide +kernel
theorem d_Q_init_38 : decode b_Q_init 38 = .ok (.newarray .long, 2) := by decide +kernel
theorem d_Q_init_40 : decode b_Q_init 40 = .ok (.putfield 28, 3) := by decide +kernel
theorem d_Q_init_43 : decode b_Q_init 43 = .ok (.return_, 1) := by decide +kernel
theorem d_Q_hasFound_0 : decode b_Q_hasFound 0 = .ok (.aload_n 0, 1) := by decide +kernel
theorem d_Q_hasFound_1 : decode b_Q_hasFound 1 = .ok (.getfield 32, 3) := by decide +kernel
theorem d_Q_hasFound_4 : decode b_Q_hasFound 4 = .ok (.ldc 36, 2) := by decide +kernel
theorem d_Q_hasFound_6 : decode b_Q_hasFound 6 = .ok (.if_icmp .ge 7, 3) := by decide +kernel
theorem d_Q_hasFound_9 : decode b_Q_hasFound 9 = .ok (.iconst 1, 1) := by decide +kernel
theorem d_Q_hasFound_10 : decode b_Q_hasFound 10 = .ok (.goto 4, 3) := by decide +kernel
theorem d_Q_hasFound_13 : decode b_Q_hasFound 13 = .ok (.iconst 0, 1) := by decide +kernel
theorem d_Q_hasFound_14 : decode b_Q_hasFound 14 = .ok (.ireturn, 1) := by decide +kernel
theorem d_Q_replan_0 : decode b_Q_replan 0 = .ok (.aload_n 0, 1) := by decide +kernel
theorem d_Q_replan_1 : decode b_Q_replan 1 = .ok (.iconst 1, 1) := by decide +kernel
theorem d_Q_replan_2 : decode b_Q_replan 2 = .ok (.putfield 37, 3) := by decide +kernel
theorem d_Q_replan_5 : decode b_Q_replan 5 = .ok (.aload_n 0, 1) := by decide +kernel
theorem d_Q_replan_6 : decode b_Q_replan 6 = .ok (.iload_n 1, 1) := by decide +kernel
theorem d_Q_replan_7 : decode b_Q_replan 7 = .ok (.putfield 41, 3) := by decide +kernel
theorem d_Q_replan_10 : decode b_Q_replan 10 = .ok (.aload_n 0, 1) := by decide +kernel
theorem d_Q_replan_11 : decode b_Q_replan 11 = .ok (.iconst 0, 1) := by decide +kernel
theorem d_Q_replan_12 : decode b_Q_replan 12 = .ok (.putfield 44, 3) := by decide +kernel
theorem d_Q_replan_15 : decode b_Q_replan 15 = .ok (.aload_n 0, 1) := by decide +kernel
theorem d_Q_replan_16 : decode b_Q_replan 16 = .ok (.iconst 0, 1) := by decide +kernel
theorem d_Q_replan_17 : decode b_Q_replan 17 = .ok (.putfield 47, 3) := by decide +kernel
theorem d_Q_replan_20 : decode b_Q_replan 20 = .ok (.aload_n 0, 1) := by decide +kernel
theorem d_Q_replan_21 : decode b_Q_replan 21 = .ok (.ldc 36, 2) := by decide +kernel
theorem d_Q_replan_23 : decode b_Q_replan 23 = .ok (.putfield 32, 3) := by decide +kernel
theorem d_Q_replan_26 : decode b_Q_replan 26 = .ok (.aload_n 0, 1) := by decide +kernel
theorem d_Q_replan_27 : decode b_Q_replan 27 = .ok (.iconst 0, 1) := by decide +kernel
theorem d_Q_replan_28 : decode b_Q_replan 28 = .ok (.putfield 50, 3) := by decide +kernel
theorem d_Q_replan_31 : decode b_Q_replan 31 = .ok (.aload_n 0, 1) := by decide +kernel
theorem d_Q_replan_32 : decode b_Q_replan 32 = .ok (.iconst 0, 1) := by decide +kernel
theorem d_Q_replan_33 : decode b_Q_replan 33 = .ok (.putfield 53, 3) := by decide +kernel
theorem d_Q_replan_36 : decode b_Q_replan 36 = .ok (.aload_n 0, 1) := by decide +kernel
theorem d_Q_replan_37 : decode b_Q_replan 37 = .ok (.getfield 22, 3) := by decide +kernel
theorem d_Q_replan_40 : decode b_Q_replan 40 = .ok (.aload_n 0, 1) := by decide +kernel
theorem d_Q_replan_41 : decode b_Q_replan 41 = .ok (.getfield 15, 3) := by decide +kernel
theorem d_Q_replan_44 : decode b_Q_replan 44 = .ok (.invokevirtual 56, 3) := by decide +kernel
theorem d_Q_replan_47 : decode b_Q_replan 47 = .ok (.aload_n 0, 1) := by decide +kernel
theorem d_Q_replan_48 : decode b_Q_replan 48 = .ok (.invokevirtual 60, 3) := by decide +kernel
theorem d_Q_replan_51 : decode b_Q_replan 51 = .ok (.istore_n 2, 1) := by decide +kernel
theorem d_Q_replan_52 : decode b_Q_replan 52 = .ok (.iload_n 2, 1) := by decide +kernel
theorem d_Q_replan_53 : decode b_Q_replan 53 = .ok (.invokestatic 64, 3) := by decide +kernel
theorem d_Q_replan_56 : decode b_Q_replan 56 = .ok (.istore_n 3, 1) := by decide +kernel
theorem d_Q_replan_57 : decode b_Q_replan 57 = .ok (.aload_n 0, 1) := by decide +kernel
theorem d_Q_replan_58 : decode b_Q_replan 58 = .ok (.iload_n 2, 1) := by decide +kernel
theorem d_Q_replan_59 : decode b_Q_replan 59 = .ok (.invokevirtual 70, 3) := by decide +kernel
theorem d_Q_replan_62 : decode b_Q_replan 62 = .ok (.aload_n 0, 1) := by decide +kernel
theorem d_Q_replan_63 : decode b_Q_replan 63 = .ok (.getfield 53, 3) := by decide +kernel
theorem d_Q_replan_66 : decode b_Q_replan 66 = .ok (.iload_n 3, 1) := by decide +kernel
theorem d_Q_replan_67 : decode b_Q_replan 67 = .ok (.if_icmp .ge 35, 3) := by decide +kernel
theorem d_Q_replan_70 : decode b_Q_replan 70 = .ok (.aload_n 0, 1) := by decide +kernel
theorem d_Q_replan_71 : decode b_Q_replan 71 = .ok (.getfield 47, 3) := by decide +kernel
theorem d_Q_replan_74 : decode b_Q_replan 74 = .ok (.ifCond .ne 28, 3) := by decide +kernel
theorem d_Q_replan_77 : decode b_Q_replan 77 = .ok (.aload_n 0, 1) := by decide +kernel
theorem d_Q_replan_78 : decode b_Q_replan 78 = .ok (.invokevirtual 74, 3) := by decide +kernel
theorem d_Q_replan_81 : decode b_Q_replan 81 = .ok (.ifCond .ne 21, 3) := by decide +kernel
theorem d_Q_replan_84 : decode b_Q_replan 84 = .ok (.aload_n 0, 1) := by decide +kernel
theorem d_Q_replan_85 : decode b_Q_replan 85 = .ok (.dup, 1) := by decide +kernel
theorem d_Q_replan_86 : decode b_Q_replan 86 = .ok (.getfield 53, 3) := by decide +kernel
theorem d_Q_replan_89 : decode b_Q_replan 89 = .ok (.iconst 1, 1) := by decide +kernel
theorem d_Q_replan_90 : decode b_Q_replan 90 = .ok (.iadd, 1) := by decide +kernel
theorem d_Q_replan_91 : decode b_Q_replan 91 = .ok (.putfield 53, 3) := by decide +kernel
theorem d_Q_replan_94 : decode b_Q_replan 94 = .ok (.aload_n 0, 1) := by decide +kernel
theorem d_Q_replan_95 : decode b_Q_replan 95 = .ok (.iload_n 2, 1) := by decide +kernel
theorem d_Q_replan_96 : decode b_Q_replan 96 = .ok (.invokevirtual 70, 3) := by decide +kernel
theorem d_Q_replan_99 : decode b_Q_replan 99 = .ok (.goto (-37), 3) := by decide +kernel
theorem d_Q_replan_102 : decode b_Q_replan 102 = .ok (.return_, 1) := by decide +kernel
theorem d_Q_looseHeats_0 : decode b_Q_looseHeats 0 = .ok (.iconst 0, 1) := by decide +kernel
theorem d_Q_looseHeats_1 : decode b_Q_looseHeats 1 = .ok (.istore_n 1, 1) := by decide +kernel
theorem d_Q_looseHeats_2 : decode b_Q_looseHeats 2 = .ok (.iconst 0, 1) := by decide +kernel
theorem d_Q_looseHeats_3 : decode b_Q_looseHeats 3 = .ok (.istore_n 2, 1) := by decide +kernel
theorem d_Q_looseHeats_4 : decode b_Q_looseHeats 4 = .ok (.iload_n 2, 1) := by decide +kernel
theorem d_Q_looseHeats_5 : decode b_Q_looseHeats 5 = .ok (.aload_n 0, 1) := by decide +kernel
theorem d_Q_looseHeats_6 : decode b_Q_looseHeats 6 = .ok (.getfield 9, 3) := by decide +kernel
theorem d_Q_looseHeats_9 : decode b_Q_looseHeats 9 = .ok (.getfield 78, 3) := by decide +kernel
theorem d_Q_looseHeats_12 : decode b_Q_looseHeats 12 = .ok (.if_icmp .ge 30, 3) := by decide +kernel
theorem d_Q_looseHeats_15 : decode b_Q_looseHeats 15 = .ok (.aload_n 0, 1) := by decide +kernel
theorem d_Q_looseHeats_16 : decode b_Q_looseHeats 16 = .ok (.getfield 9, 3) := by decide +kernel
theorem d_Q_looseHeats_19 : decode b_Q_looseHeats 19 = .ok (.aload_n 0, 1) := by decide +kernel
theorem d_Q_looseHeats_20 : decode b_Q_looseHeats 20 = .ok (.getfield 15, 3) := by decide +kernel
theorem d_Q_looseHeats_23 : decode b_Q_looseHeats 23 = .ok (.iload_n 2, 1) := by decide +kernel
theorem d_Q_looseHeats_24 : decode b_Q_looseHeats 24 = .ok (.invokevirtual 83, 3) := by decide +kernel
theorem d_Q_looseHeats_27 : decode b_Q_looseHeats 27 = .ok (.ifCond .ne 9, 3) := by decide +kernel
theorem d_Q_looseHeats_30 : decode b_Q_looseHeats 30 = .ok (.iload_n 1, 1) := by decide +kernel
theorem d_Q_looseHeats_31 : decode b_Q_looseHeats 31 = .ok (.iconst 1, 1) := by decide +kernel
theorem d_Q_looseHeats_32 : decode b_Q_looseHeats 32 = .ok (.iload_n 2, 1) := by decide +kernel
theorem d_Q_looseHeats_33 : decode b_Q_looseHeats 33 = .ok (.ishl, 1) := by decide +kernel
theorem d_Q_looseHeats_34 : decode b_Q_looseHeats 34 = .ok (.ior, 1) := by decide +kernel
theorem d_Q_looseHeats_35 : decode b_Q_looseHeats 35 = .ok (.istore_n 1, 1) := by decide +kernel
theorem d_Q_looseHeats_36 : decode b_Q_looseHeats 36 = .ok (.iinc 2 1, 3) := by decide +kernel
theorem d_Q_looseHeats_39 : decode b_Q_looseHeats 39 = .ok (.goto (-35), 3) := by decide +kernel
theorem d_Q_looseHeats_42 : decode b_Q_looseHeats 42 = .ok (.iload_n 1, 1) := by decide +kernel
theorem d_Q_looseHeats_43 : decode b_Q_looseHeats 43 = .ok (.ireturn, 1) := by decide +kernel
theorem d_Q_searchRound_0 : decode b_Q_searchRound 0 = .ok (.iconst 0, 1) := by decide +kernel
theorem d_Q_searchRound_1 : decode b_Q_searchRound 1 = .ok (.istore_n 2, 1) := by decide +kernel
theorem d_Q_searchRound_2 : decode b_Q_searchRound 2 = .ok (.iload_n 2, 1) := by decide +kernel
theorem d_Q_searchRound_3 : decode b_Q_searchRound 3 = .ok (.iload_n 1, 1) := by decide +kernel
theorem d_Q_searchRound_4 : decode b_Q_searchRound 4 = .ok (.if_icmp .gt 40, 3) := by decide +kernel
theorem d_Q_searchRound_7 : decode b_Q_searchRound 7 = .ok (.aload_n 0, 1) := by decide +kernel
theorem d_Q_searchRound_8 : decode b_Q_searchRound 8 = .ok (.getfield 47, 3) := by decide +kernel
theorem d_Q_searchRound_11 : decode b_Q_searchRound 11 = .ok (.ifCond .ne 33, 3) := by decide +kernel
theorem d_Q_searchRound_14 : decode b_Q_searchRound 14 = .ok (.iload_n 2, 1) := by decide +kernel
theorem d_Q_searchRound_15 : decode b_Q_searchRound 15 = .ok (.iload_n 1, 1) := by decide +kernel
theorem d_Q_searchRound_16 : decode b_Q_searchRound 16 = .ok (.iconst (-1), 1) := by decide +kernel
theorem d_Q_searchRound_17 : decode b_Q_searchRound 17 = .ok (.ixor, 1) := by decide +kernel
theorem d_Q_searchRound_18 : decode b_Q_searchRound 18 = .ok (.iand, 1) := by decide +kernel
theorem d_Q_searchRound_19 : decode b_Q_searchRound 19 = .ok (.ifCond .ne 19, 3) := by decide +kernel
theorem d_Q_searchRound_22 : decode b_Q_searchRound 22 = .ok (.iload_n 2, 1) := by decide +kernel
theorem d_Q_searchRound_23 : decode b_Q_searchRound 23 = .ok (.invokestatic 64, 3) := by decide +kernel
theorem d_Q_searchRound_26 : decode b_Q_searchRound 26 = .ok (.aload_n 0, 1) := by decide +kernel
theorem d_Q_searchRound_27 : decode b_Q_searchRound 27 = .ok (.getfield 53, 3) := by decide +kernel
theorem d_Q_searchRound_30 : decode b_Q_searchRound 30 = .ok (.if_icmp .ne 8, 3) := by decide +kernel
theorem d_Q_searchRound_33 : decode b_Q_searchRound 33 = .ok (.aload_n 0, 1) := by decide +kernel
theorem d_Q_searchRound_34 : decode b_Q_searchRound 34 = .ok (.iload_n 2, 1) := by decide +kernel
theorem d_Q_searchRound_35 : decode b_Q_searchRound 35 = .ok (.invokevirtual 87, 3) := by decide +kernel
theorem d_Q_searchRound_38 : decode b_Q_searchRound 38 = .ok (.iinc 2 1, 3) := by decide +kernel
theorem d_Q_searchRound_41 : decode b_Q_searchRound 41 = .ok (.goto (-39), 3) := by decide +kernel
theorem d_Q_searchRound_44 : decode b_Q_searchRound 44 = .ok (.return_, 1) := by decide +kernel
theorem d_Q_searchSet_0 : decode b_Q_searchSet 0 = .ok (.aload_n 0, 1) := by decide +kernel
theorem d_Q_searchSet_1 : decode b_Q_searchSet 1 = .ok (.iload_n 1, 1) := by decide +kernel
theorem d_Q_searchSet_2 : decode b_Q_searchSet 2 = .ok (.putfield 90, 3) := by decide +kernel
theorem d_Q_searchSet_5 : decode b_Q_searchSet 5 = .ok (.aload_n 0, 1) := by decide +kernel
theorem d_Q_searchSet_6 : decode b_Q_searchSet 6 = .ok (.invokevirtual 93, 3) := by decide +kernel
theorem d_Q_searchSet_9 : decode b_Q_searchSet 9 = .ok (.ifCond .ne 4, 3) := by decide +kernel
theorem d_Q_searchSet_12 : decode b_Q_searchSet 12 = .ok (.return_, 1) := by decide +kernel
theorem d_Q_searchSet_13 : decode b_Q_searchSet 13 = .ok (.aload_n 0, 1) := by decide +kernel
theorem d_Q_searchSet_14 : decode b_Q_searchSet 14 = .ok (.invokevirtual 96, 3) := by decide +kernel
theorem d_Q_searchSet_17 : decode b_Q_searchSet 17 = .ok (.istore_n 2, 1) := by decide +kernel
theorem d_Q_searchSet_18 : decode b_Q_searchSet 18 = .ok (.iload_n 2, 1) := by decide +kernel
theorem d_Q_searchSet_19 : decode b_Q_searchSet 19 = .ok (.aload_n 0, 1) := by decide +kernel
theorem d_Q_searchSet_20 : decode b_Q_searchSet 20 = .ok (.getfield 32, 3) := by decide +kernel
theorem d_Q_searchSet_23 : decode b_Q_searchSet 23 = .ok (.if_icmp .ge 9, 3) := by decide +kernel
theorem d_Q_searchSet_26 : decode b_Q_searchSet 26 = .ok (.aload_n 0, 1) := by decide +kernel
theorem d_Q_searchSet_27 : decode b_Q_searchSet 27 = .ok (.iconst 0, 1) := by decide +kernel
theorem d_Q_searchSet_28 : decode b_Q_searchSet 28 = .ok (.iload_n 2, 1) := by decide +kernel
theorem d_Q_searchSet_29 : decode b_Q_searchSet 29 = .ok (.invokevirtual 99, 3) := by decide +kernel
theorem d_Q_searchSet_32 : decode b_Q_searchSet 32 = .ok (.return_, 1) := by decide +kernel
theorem d_Q_isInSet_0 : decode b_Q_isInSet 0 = .ok (.aload_n 0, 1) := by decide +kernel
theorem d_Q_isInSet_1 : decode b_Q_isInSet 1 = .ok (.getfield 90, 3) := by decide +kernel
theorem d_Q_isInSet_4 : decode b_Q_isInSet 4 = .ok (.iload_n 1, 1) := by decide +kernel
theorem d_Q_isInSet_5 : decode b_Q_isInSet 5 = .ok (.ishr, 1) := by decide +kernel
theorem d_Q_isInSet_6 : decode b_Q_isInSet 6 = .ok (.iconst 1, 1) := by decide +kernel
theorem d_Q_isInSet_7 : decode b_Q_isInSet 7 = .ok (.iand, 1) := by decide +kernel
theorem d_Q_isInSet_8 : decode b_Q_isInSet 8 = .ok (.iconst 1, 1) := by decide +kernel
theorem d_Q_isInSet_9 : decode b_Q_isInSet 9 = .ok (.if_icmp .ne 7, 3) := by decide +kernel
theorem d_Q_isInSet_12 : decode b_Q_isInSet 12 = .ok (.iconst 1, 1) := by decide +kernel
theorem d_Q_isInSet_13 : decode b_Q_isInSet 13 = .ok (.goto 4, 3) := by decide +kernel
theorem d_Q_isInSet_16 : decode b_Q_isInSet 16 = .ok (.iconst 0, 1) := by decide +kernel
theorem d_Q_isInSet_17 : decode b_Q_isInSet 17 = .ok (.ireturn, 1) := by decide +kernel
theorem d_Q_canOthersStay_0 : decode b_Q_canOthersStay 0 = .ok (.iconst 0, 1) := by decide +kernel
theorem d_Q_canOthersStay_1 : decode b_Q_canOthersStay 1 = .ok (.istore_n 1, 1) := by decide +kernel
theorem d_Q_canOthersStay_2 : decode b_Q_canOthersStay 2 = .ok (.iload_n 1, 1) := by decide +kernel
theorem d_Q_canOthersStay_3 : decode b_Q_canOthersStay 3 = .ok (.iconst 3, 1) := by decide +kernel
theorem d_Q_canOthersStay_4 : decode b_Q_canOthersStay 4 = .ok (.if_icmp .ge 24, 3) := by decide +kernel
theorem d_Q_canOthersStay_7 : decode b_Q_canOthersStay 7 = .ok (.aload_n 0, 1) := by decide +kernel
theorem d_Q_canOthersStay_8 : decode b_Q_canOthersStay 8 = .ok (.getfield 28, 3) := by decide +kernel
theorem d_Q_canOthersStay_11 : decode b_Q_canOthersStay 11 = .ok (.iload_n 1, 1) := by decide +kernel
theorem d_Q_canOthersStay_12 : decode b_Q_canOthersStay 12 = .ok (.aload_n 0, 1) := by decide +kernel
theorem d_Q_canOthersStay_13 : decode b_Q_canOthersStay 13 = .ok (.getfield 9, 3) := by decide +kernel
theorem d_Q_canOthersStay_16 : decode b_Q_canOthersStay 16 = .ok (.getfield 103, 3) := by decide +kernel
theorem d_Q_canOthersStay_19 : decode b_Q_canOthersStay 19 = .ok (.iload_n 1, 1) := by decide +kernel
theorem d_Q_canOthersStay_20 : decode b_Q_canOthersStay 20 = .ok (.laload, 1) := by decide +kernel
theorem d_Q_canOthersStay_21 : decode b_Q_canOthersStay 21 = .ok (.lastore, 1) := by decide +kernel
theorem d_Q_canOthersStay_22 : decode b_Q_canOthersStay 22 = .ok (.iinc 1 1, 3) := by decide +kernel
theorem d_Q_canOthersStay_25 : decode b_Q_canOthersStay 25 = .ok (.goto (-23), 3) := by decide +kernel
theorem d_Q_canOthersStay_28 : decode b_Q_canOthersStay 28 = .ok (.iconst 0, 1) := by decide +kernel
theorem d_Q_canOthersStay_29 : decode b_Q_canOthersStay 29 = .ok (.istore_n 1, 1) := by decide +kernel
theorem d_Q_canOthersStay_30 : decode b_Q_canOthersStay 30 = .ok (.iload_n 1, 1) := by decide +kernel
theorem d_Q_canOthersStay_31 : decode b_Q_canOthersStay 31 = .ok (.aload_n 0, 1) := by decide +kernel
theorem d_Q_canOthersStay_32 : decode b_Q_canOthersStay 32 = .ok (.getfield 9, 3) := by decide +kernel
theorem d_Q_canOthersStay_35 : decode b_Q_canOthersStay 35 = .ok (.getfield 78, 3) := by decide +kernel
theorem d_Q_canOthersStay_38 : decode b_Q_canOthersStay 38 = .ok (.if_icmp .ge 92, 3) := by decide +kernel
theorem d_Q_canOthersStay_41 : decode b_Q_canOthersStay 41 = .ok (.aload_n 0, 1) := by decide +kernel
theorem d_Q_canOthersStay_42 : decode b_Q_canOthersStay 42 = .ok (.iload_n 1, 1) := by decide +kernel
theorem d_Q_canOthersStay_43 : decode b_Q_canOthersStay 43 = .ok (.invokevirtual 106, 3) := by decide +kernel
theorem d_Q_canOthersStay_46 : decode b_Q_canOthersStay 46 = .ok (.ifCond .ne 78, 3) := by decide +kernel
theorem d_Q_canOthersStay_49 : decode b_Q_canOthersStay 49 = .ok (.aload_n 0, 1) := by decide +kernel
theorem d_Q_canOthersStay_50 : decode b_Q_canOthersStay 50 = .ok (.getfield 15, 3) := by decide +kernel
theorem d_Q_canOthersStay_53 : decode b_Q_canOthersStay 53 = .ok (.getfield 110, 3) := by decide +kernel
theorem d_Q_canOthersStay_56 : decode b_Q_canOthersStay 56 = .ok (.iload_n 1, 1) := by decide +kernel
theorem d_Q_canOthersStay_57 : decode b_Q_canOthersStay 57 = .ok (.iaload, 1) := by decide +kernel
theorem d_Q_canOthersStay_58 : decode b_Q_canOthersStay 58 = .ok (.istore_n 2, 1) := by decide +kernel
theorem d_Q_canOthersStay_59 : decode b_Q_canOthersStay 59 = .ok (.aload_n 0, 1) := by decide +kernel
theorem d_Q_canOthersStay_60 : decode b_Q_canOthersStay 60 = .ok (.getfield 15, 3) := by decide +kernel
theorem d_Q_canOthersStay_63 : decode b_Q_canOthersStay 63 = .ok (.getfield 114, 3) := by decide +kernel
theorem d_Q_canOthersStay_66 : decode b_Q_canOthersStay 66 = .ok (.iload_n 1, 1) := by decide +kernel
theorem d_Q_canOthersStay_67 : decode b_Q_canOthersStay 67 = .ok (.iaload, 1) := by decide +kernel
theorem d_Q_canOthersStay_68 : decode b_Q_canOthersStay 68 = .ok (.aload_n 0, 1) := by decide +kernel
theorem d_Q_canOthersStay_69 : decode b_Q_canOthersStay 69 = .ok (.getfield 9, 3) := by decide +kernel
theorem d_Q_canOthersStay_72 : decode b_Q_canOthersStay 72 = .ok (.getfield 117, 3) := by decide +kernel
theorem d_Q_canOthersStay_75 : decode b_Q_canOthersStay 75 = .ok (.iload_n 1, 1) := by decide +kernel
theorem d_Q_canOthersStay_76 : decode b_Q_canOthersStay 76 = .ok (.iaload, 1) := by decide +kernel
theorem d_Q_canOthersStay_77 : decode b_Q_canOthersStay 77 = .ok (.invokestatic 120, 3) := by decide +kernel
theorem d_Q_canOthersStay_80 : decode b_Q_canOthersStay 80 = .ok (.lstore_n 3, 1) := by decide +kernel
theorem d_Q_canOthersStay_81 : decode b_Q_canOthersStay 81 = .ok (.aload_n 0, 1) := by decide +kernel
theorem d_Q_canOthersStay_82 : decode b_Q_canOthersStay 82 = .ok (.getfield 28, 3) := by decide +kernel
theorem d_Q_canOthersStay_85 : decode b_Q_canOthersStay 85 = .ok (.iload_n 2, 1) := by decide +kernel
theorem d_Q_canOthersStay_86 : decode b_Q_canOthersStay 86 = .ok (.laload, 1) := by decide +kernel
theorem d_Q_canOthersStay_87 : decode b_Q_canOthersStay 87 = .ok (.lload_n 3, 1) := by decide +kernel
theorem d_Q_canOthersStay_88 : decode b_Q_canOthersStay 88 = .ok (.land, 1) := by decide +kernel
theorem d_Q_canOthersStay_89 : decode b_Q_canOthersStay 89 = .ok (.lconst 0, 1) := by decide +kernel
theorem d_Q_canOthersStay_90 : decode b_Q_canOthersStay 90 = .ok (.lcmp, 1) := by decide +kernel
theorem d_Q_canOthersStay_91 : decode b_Q_canOthersStay 91 = .ok (.ifCond .eq 5, 3) := by decide +kernel
theorem d_Q_canOthersStay_94 : decode b_Q_canOthersStay 94 = .ok (.iconst 0, 1) := by decide +kernel
theorem d_Q_canOthersStay_95 : decode b_Q_canOthersStay 95 = .ok (.ireturn, 1) := by decide +kernel
theorem d_Q_canOthersStay_96 : decode b_Q_canOthersStay 96 = .ok (.aload_n 0, 1) := by decide +kernel
theorem d_Q_canOthersStay_97 : decode b_Q_canOthersStay 97 = .ok (.getfield 28, 3) := by decide +kernel
theorem d_Q_canOthersStay_100 : decode b_Q_canOthersStay 100 = .ok (.iload_n 2, 1) := by decide +kernel
theorem d_Q_canOthersStay_101 : decode b_Q_canOthersStay 101 = .ok (.dup2, 1) := by decide +kernel
theorem d_Q_canOthersStay_102 : decode b_Q_canOthersStay 102 = .ok (.laload, 1) := by decide +kernel
theorem d_Q_canOthersStay_103 : decode b_Q_canOthersStay 103 = .ok (.lload_n 3, 1) := by decide +kernel
theorem d_Q_canOthersStay_104 : decode b_Q_canOthersStay 104 = .ok (.lor, 1) := by decide +kernel
theorem d_Q_canOthersStay_105 : decode b_Q_canOthersStay 105 = .ok (.lastore, 1) := by decide +kernel
theorem d_Q_canOthersStay_106 : decode b_Q_canOthersStay 106 = .ok (.aload_n 0, 1) := by decide +kernel
theorem d_Q_canOthersStay_107 : decode b_Q_canOthersStay 107 = .ok (.getfield 22, 3) := by decide +kernel
theorem d_Q_canOthersStay_110 : decode b_Q_canOthersStay 110 = .ok (.iload_n 1, 1) := by decide +kernel
theorem d_Q_canOthersStay_111 : decode b_Q_canOthersStay 111 = .ok (.iload_n 2, 1) := by decide +kernel
theorem d_Q_canOthersStay_112 : decode b_Q_canOthersStay 112 = .ok (.aload_n 0, 1) := by decide +kernel
theorem d_Q_canOthersStay_113 : decode b_Q_canOthersStay 113 = .ok (.getfield 15, 3) := by decide +kernel
theorem d_Q_canOthersStay_116 : decode b_Q_canOthersStay 116 = .ok (.getfield 114, 3) := by decide +kernel
theorem d_Q_canOthersStay_119 : decode b_Q_canOthersStay 119 = .ok (.iload_n 1, 1) := by decide +kernel
theorem d_Q_canOthersStay_120 : decode b_Q_canOthersStay 120 = .ok (.iaload, 1) := by decide +kernel
theorem d_Q_canOthersStay_121 : decode b_Q_canOthersStay 121 = .ok (.invokevirtual 124, 3) := by decide +kernel
theorem d_Q_canOthersStay_124 : decode b_Q_canOthersStay 124 = .ok (.iinc 1 1, 3) := by decide +kernel
theorem d_Q_canOthersStay_127 : decode b_Q_canOthersStay 127 = .ok (.goto (-97), 3) := by decide +kernel
theorem d_Q_canOthersStay_130 : decode b_Q_canOthersStay 130 = .ok (.iconst 1, 1) := by decide +kernel
theorem d_Q_canOthersStay_131 : decode b_Q_canOthersStay 131 = .ok (.ireturn, 1) := by decide +kernel
theorem d_Q_costOfOthers_0 : decode b_Q_costOfOthers 0 = .ok (.iconst 0, 1) := by decide +kernel
theorem d_Q_costOfOthers_1 : decode b_Q_costOfOthers 1 = .ok (.istore_n 1, 1) := by decide +kernel
theorem d_Q_costOfOthers_2 : decode b_Q_costOfOthers 2 = .ok (.iconst 0, 1) := by decide +kernel
theorem d_Q_costOfOthers_3 : decode b_Q_costOfOthers 3 = .ok (.istore_n 2, 1) := by decide +kernel
theorem d_Q_costOfOthers_4 : decode b_Q_costOfOthers 4 = .ok (.iload_n 2, 1) := by decide +kernel
theorem d_Q_costOfOthers_5 : decode b_Q_costOfOthers 5 = .ok (.aload_n 0, 1) := by decide +kernel
theorem d_Q_costOfOthers_6 : decode b_Q_costOfOthers 6 = .ok (.getfield 9, 3) := by decide +kernel
theorem d_Q_costOfOthers_9 : decode b_Q_costOfOthers 9 = .ok (.getfield 78, 3) := by decide +kernel
theorem d_Q_costOfOthers_12 : decode b_Q_costOfOthers 12 = .ok (.if_icmp .ge 46, 3) := by decide +kernel
theorem d_Q_costOfOthers_15 : decode b_Q_costOfOthers 15 = .ok (.aload_n 0, 1) := by decide +kernel
theorem d_Q_costOfOthers_16 : decode b_Q_costOfOthers 16 = .ok (.iload_n 2, 1) := by decide +kernel
theorem d_Q_costOfOthers_17 : decode b_Q_costOfOthers 17 = .ok (.invokevirtual 106, 3) := by decide +kernel
theorem d_Q_costOfOthers_20 : decode b_Q_costOfOthers 20 = .ok (.ifCond .ne 32, 3) := by decide +kernel
theorem d_Q_costOfOthers_23 : decode b_Q_costOfOthers 23 = .ok (.iload_n 1, 1) := by decide +kernel
theorem d_Q_costOfOthers_24 : decode b_Q_costOfOthers 24 = .ok (.aload_n 0, 1) := by decide +kernel
theorem d_Q_costOfOthers_25 : decode b_Q_costOfOthers 25 = .ok (.getfield 9, 3) := by decide +kernel
theorem d_Q_costOfOthers_28 : decode b_Q_costOfOthers 28 = .ok (.iload_n 2, 1) := by decide +kernel
theorem d_Q_costOfOthers_29 : decode b_Q_costOfOthers 29 = .ok (.aload_n 0, 1) := by decide +kernel
theorem d_Q_costOfOthers_30 : decode b_Q_costOfOthers 30 = .ok (.getfield 15, 3) := by decide +kernel
theorem d_Q_costOfOthers_33 : decode b_Q_costOfOthers 33 = .ok (.getfield 128, 3) := by decide +kernel
theorem d_Q_costOfOthers_36 : decode b_Q_costOfOthers 36 = .ok (.iload_n 2, 1) := by decide +kernel
theorem d_Q_costOfOthers_37 : decode b_Q_costOfOthers 37 = .ok (.iaload, 1) := by decide +kernel
theorem d_Q_costOfOthers_38 : decode b_Q_costOfOthers 38 = .ok (.aload_n 0, 1) := by decide +kernel
theorem d_Q_costOfOthers_39 : decode b_Q_costOfOthers 39 = .ok (.getfield 15, 3) := by decide +kernel
theorem d_Q_costOfOthers_42 : decode b_Q_costOfOthers 42 = .ok (.getfield 114, 3) := by decide +kernel
theorem d_Q_costOfOthers_45 : decode b_Q_costOfOthers 45 = .ok (.iload_n 2, 1) := by decide +kernel
theorem d_Q_costOfOthers_46 : decode b_Q_costOfOthers 46 = .ok (.iaload, 1) := by decide +kernel
theorem d_Q_costOfOthers_47 : decode b_Q_costOfOthers 47 = .ok (.invokevirtual 131, 3) := by decide +kernel
theorem d_Q_costOfOthers_50 : decode b_Q_costOfOthers 50 = .ok (.iadd, 1) := by decide +kernel
theorem d_Q_costOfOthers_51 : decode b_Q_costOfOthers 51 = .ok (.istore_n 1, 1) := by decide +kernel
theorem d_Q_costOfOthers_52 : decode b_Q_costOfOthers 52 = .ok (.iinc 2 1, 3) := by decide +kernel
theorem d_Q_costOfOthers_55 : decode b_Q_costOfOthers 55 = .ok (.goto (-51), 3) := by decide +kernel
theorem d_Q_costOfOthers_58 : decode b_Q_costOfOthers 58 = .ok (.iload_n 1, 1) := by decide +kernel
theorem d_Q_costOfOthers_59 : decode b_Q_costOfOthers 59 = .ok (.ireturn, 1) := by decide +kernel
theorem d_Q_placeFrom_0 : decode b_Q_placeFrom 0 = .ok (.iload_n 1, 1) := by decide +kernel
theorem d_Q_placeFrom_1 : decode b_Q_placeFrom 1 = .ok (.aload_n 0, 1) := by decide +kernel
theorem d_Q_placeFrom_2 : decode b_Q_placeFrom 2 = .ok (.getfield 9, 3) := by decide +kernel
theorem d_Q_placeFrom_5 : decode b_Q_placeFrom 5 = .ok (.getfield 78, 3) := by decide +kernel
theorem d_Q_placeFrom_8 : decode b_Q_placeFrom 8 = .ok (.if_icmp .lt 28, 3) := by decide +kernel
theorem d_Q_placeFrom_11 : decode b_Q_placeFrom 11 = .ok (.aload_n 0, 1) := by decide +kernel
theorem d_Q_placeFrom_12 : decode b_Q_placeFrom 12 = .ok (.iload_n 2, 1) := by decide +kernel
theorem d_Q_placeFrom_13 : decode b_Q_placeFrom 13 = .ok (.putfield 32, 3) := by decide +kernel
theorem d_Q_placeFrom_16 : decode b_Q_placeFrom 16 = .ok (.aload_n 0, 1) := by decide +kernel
theorem d_Q_placeFrom_17 : decode b_Q_placeFrom 17 = .ok (.getfield 25, 3) := by decide +kernel
theorem d_Q_placeFrom_20 : decode b_Q_placeFrom 20 = .ok (.aload_n 0, 1) := by decide +kernel
theorem d_Q_placeFrom_21 : decode b_Q_placeFrom 21 = .ok (.getfield 22, 3) := by decide +kernel
theorem d_Q_placeFrom_24 : decode b_Q_placeFrom 24 = .ok (.invokevirtual 56, 3) := by decide +kernel
theorem d_Q_placeFrom_27 : decode b_Q_placeFrom 27 = .ok (.aload_n 0, 1) := by decide +kernel
theorem d_Q_placeFrom_28 : decode b_Q_placeFrom 28 = .ok (.aload_n 0, 1) := by decide +kernel
theorem d_Q_placeFrom_29 : decode b_Q_placeFrom 29 = .ok (.getfield 90, 3) := by decide +kernel
theorem d_Q_placeFrom_32 : decode b_Q_placeFrom 32 = .ok (.putfield 50, 3) := by decide +kernel
theorem d_Q_placeFrom_35 : decode b_Q_placeFrom 35 = .ok (.return_, 1) := by decide +kernel
theorem d_Q_placeFrom_36 : decode b_Q_placeFrom 36 = .ok (.aload_n 0, 1) := by decide +kernel
theorem d_Q_placeFrom_37 : decode b_Q_placeFrom 37 = .ok (.iload_n 1, 1) := by decide +kernel
theorem d_Q_placeFrom_38 : decode b_Q_placeFrom 38 = .ok (.invokevirtual 106, 3) := by decide +kernel
theorem d_Q_placeFrom_41 : decode b_Q_placeFrom 41 = .ok (.ifCond .ne 12, 3) := by decide +kernel
theorem d_Q_placeFrom_44 : decode b_Q_placeFrom 44 = .ok (.aload_n 0, 1) := by decide +kernel
theorem d_Q_placeFrom_45 : decode b_Q_placeFrom 45 = .ok (.iload_n 1, 1) := by decide +kernel
theorem d_Q_placeFrom_46 : decode b_Q_placeFrom 46 = .ok (.iconst 1, 1) := by decide +kernel
theorem d_Q_placeFrom_47 : decode b_Q_placeFrom 47 = .ok (.iadd, 1) := by decide +kernel
theorem d_Q_placeFrom_48 : decode b_Q_placeFrom 48 = .ok (.iload_n 2, 1) := by decide +kernel
theorem d_Q_placeFrom_49 : decode b_Q_placeFrom 49 = .ok (.invokevirtual 99, 3) := by decide +kernel
theorem d_Q_placeFrom_52 : decode b_Q_placeFrom 52 = .ok (.return_, 1) := by decide +kernel
theorem d_Q_placeFrom_53 : decode b_Q_placeFrom 53 = .ok (.iconst 0, 1) := by decide +kernel
theorem d_Q_placeFrom_54 : decode b_Q_placeFrom 54 = .ok (.istore_n 3, 1) := by decide +kernel
theorem d_Q_placeFrom_55 : decode b_Q_placeFrom 55 = .ok (.iload_n 3, 1) := by decide +kernel
theorem d_Q_placeFrom_56 : decode b_Q_placeFrom 56 = .ok (.iconst 3, 1) := by decide +kernel
theorem d_Q_placeFrom_57 : decode b_Q_placeFrom 57 = .ok (.if_icmp .ge 39, 3) := by decide +kernel
theorem d_Q_placeFrom_60 : decode b_Q_placeFrom 60 = .ok (.aload_n 0, 1) := by decide +kernel
theorem d_Q_placeFrom_61 : decode b_Q_placeFrom 61 = .ok (.getfield 47, 3) := by decide +kernel
theorem d_Q_placeFrom_64 : decode b_Q_placeFrom 64 = .ok (.ifCond .ne 32, 3) := by decide +kernel
theorem d_Q_placeFrom_67 : decode b_Q_placeFrom 67 = .ok (.aload_n 0, 1) := by decide +kernel
theorem d_Q_placeFrom_68 : decode b_Q_placeFrom 68 = .ok (.getfield 9, 3) := by decide +kernel
theorem d_Q_placeFrom_71 : decode b_Q_placeFrom 71 = .ok (.getfield 135, 3) := by decide +kernel
theorem d_Q_placeFrom_74 : decode b_Q_placeFrom 74 = .ok (.iload_n 1, 1) := by decide +kernel
theorem d_Q_placeFrom_75 : decode b_Q_placeFrom 75 = .ok (.iaload, 1) := by decide +kernel
theorem d_Q_placeFrom_76 : decode b_Q_placeFrom 76 = .ok (.iload_n 3, 1) := by decide +kernel
theorem d_Q_placeFrom_77 : decode b_Q_placeFrom 77 = .ok (.invokestatic 138, 3) := by decide +kernel
theorem d_Q_placeFrom_80 : decode b_Q_placeFrom 80 = .ok (.ifCond .eq 10, 3) := by decide +kernel
theorem d_Q_placeFrom_83 : decode b_Q_placeFrom 83 = .ok (.aload_n 0, 1) := by decide +kernel
theorem d_Q_placeFrom_84 : decode b_Q_placeFrom 84 = .ok (.iload_n 1, 1) := by decide +kernel
theorem d_Q_placeFrom_85 : decode b_Q_placeFrom 85 = .ok (.iload_n 3, 1) := by decide +kernel
theorem d_Q_placeFrom_86 : decode b_Q_placeFrom 86 = .ok (.iload_n 2, 1) := by decide +kernel
theorem d_Q_placeFrom_87 : decode b_Q_placeFrom 87 = .ok (.invokevirtual 142, 3) := by decide +kernel
theorem d_Q_placeFrom_90 : decode b_Q_placeFrom 90 = .ok (.iinc 3 1, 3) := by decide +kernel
theorem d_Q_placeFrom_93 : decode b_Q_placeFrom 93 = .ok (.goto (-38), 3) := by decide +kernel
theorem d_Q_placeFrom_96 : decode b_Q_placeFrom 96 = .ok (.return_, 1) := by decide +kernel
theorem d_Q_tryUnit_0 : decode b_Q_tryUnit 0 = .ok (.aload_n 0, 1) := by decide +kernel
theorem d_Q_tryUnit_1 : decode b_Q_tryUnit 1 = .ok (.getfield 9, 3) := by decide +kernel
theorem d_Q_tryUnit_4 : decode b_Q_tryUnit 4 = .ok (.getfield 117, 3) := by decide +kernel
theorem d_Q_tryUnit_7 : decode b_Q_tryUnit 7 = .ok (.iload_n 1, 1) := by decide +kernel
theorem d_Q_tryUnit_8 : decode b_Q_tryUnit 8 = .ok (.iaload, 1) := by decide +kernel
theorem d_Q_tryUnit_9 : decode b_Q_tryUnit 9 = .ok (.istore 4, 2) := by decide +kernel
theorem d_Q_tryUnit_11 : decode b_Q_tryUnit 11 = .ok (.iconst 0, 1) := by decide +kernel
theorem d_Q_tryUnit_12 : decode b_Q_tryUnit 12 = .ok (.istore 5, 2) := by decide +kernel
theorem d_Q_tryUnit_14 : decode b_Q_tryUnit 14 = .ok (.iload 5, 2) := by decide +kernel
theorem d_Q_tryUnit_16 : decode b_Q_tryUnit 16 = .ok (.iload 4, 2) := by decide +kernel
theorem d_Q_tryUnit_18 : decode b_Q_tryUnit 18 = .ok (.iadd, 1) := by decide +kernel
theorem d_Q_tryUnit_19 : decode b_Q_tryUnit 19 = .ok (.bipush 60, 2) := by decide +kernel
theorem d_Q_tryUnit_21 : decode b_Q_tryUnit 21 = .ok (.if_icmp .gt 62, 3) := by decide +kernel
theorem d_Q_tryUnit_24 : decode b_Q_tryUnit 24 = .ok (.aload_n 0, 1) := by decide +kernel
theorem d_Q_tryUnit_25 : decode b_Q_tryUnit 25 = .ok (.getfield 47, 3) := by decide +kernel
theorem d_Q_tryUnit_28 : decode b_Q_tryUnit 28 = .ok (.ifCond .ne 55, 3) := by decide +kernel
theorem d_Q_tryUnit_31 : decode b_Q_tryUnit 31 = .ok (.iload 5, 2) := by decide +kernel
theorem d_Q_tryUnit_33 : decode b_Q_tryUnit 33 = .ok (.iload 4, 2) := by decide +kernel
theorem d_Q_tryUnit_35 : decode b_Q_tryUnit 35 = .ok (.invokestatic 120, 3) := by decide +kernel
theorem d_Q_tryUnit_38 : decode b_Q_tryUnit 38 = .ok (.lstore 6, 2) := by decide +kernel
theorem d_Q_tryUnit_40 : decode b_Q_tryUnit 40 = .ok (.aload_n 0, 1) := by decide +kernel
theorem d_Q_tryUnit_41 : decode b_Q_tryUnit 41 = .ok (.getfield 28, 3) := by decide +kernel
theorem d_Q_tryUnit_44 : decode b_Q_tryUnit 44 = .ok (.iload_n 2, 1) := by decide +kernel
theorem d_Q_tryUnit_45 : decode b_Q_tryUnit 45 = .ok (.laload, 1) := by decide +kernel
theorem d_Q_tryUnit_46 : decode b_Q_tryUnit 46 = .ok (.lload 6, 2) := by decide +kernel
theorem d_Q_tryUnit_48 : decode b_Q_tryUnit 48 = .ok (.land, 1) := by decide +kernel
theorem d_Q_tryUnit_49 : decode b_Q_tryUnit 49 = .ok (.lconst 0, 1) := by decide +kernel
theorem d_Q_tryUnit_50 : decode b_Q_tryUnit 50 = .ok (.lcmp, 1) := by decide +kernel
theorem d_Q_tryUnit_51 : decode b_Q_tryUnit 51 = .ok (.ifCond .ne 26, 3) := by decide +kernel
theorem d_Q_tryUnit_54 : decode b_Q_tryUnit 54 = .ok (.aload_n 0, 1) := by decide +kernel
theorem d_Q_tryUnit_55 : decode b_Q_tryUnit 55 = .ok (.getfield 15, 3) := by decide +kernel
theorem d_Q_tryUnit_58 : decode b_Q_tryUnit 58 = .ok (.iload_n 1, 1) := by decide +kernel
theorem d_Q_tryUnit_59 : decode b_Q_tryUnit 59 = .ok (.iload_n 2, 1) := by decide +kernel
theorem d_Q_tryUnit_60 : decode b_Q_tryUnit 60 = .ok (.iload 5, 2) := by decide +kernel
theorem d_Q_tryUnit_62 : decode b_Q_tryUnit 62 = .ok (.invokevirtual 145, 3) := by decide +kernel
theorem d_Q_tryUnit_65 : decode b_Q_tryUnit 65 = .ok (.ifCond .ne 12, 3) := by decide +kernel
theorem d_Q_tryUnit_68 : decode b_Q_tryUnit 68 = .ok (.aload_n 0, 1) := by decide +kernel
theorem d_Q_tryUnit_69 : decode b_Q_tryUnit 69 = .ok (.iload_n 1, 1) := by decide +kernel
theorem d_Q_tryUnit_70 : decode b_Q_tryUnit 70 = .ok (.iload_n 2, 1) := by decide +kernel
theorem d_Q_tryUnit_71 : decode b_Q_tryUnit 71 = .ok (.iload 5, 2) := by decide +kernel
theorem d_Q_tryUnit_73 : decode b_Q_tryUnit 73 = .ok (.iload_n 3, 1) := by decide +kernel
theorem d_Q_tryUnit_74 : decode b_Q_tryUnit 74 = .ok (.invokevirtual 149, 3) := by decide +kernel
theorem d_Q_tryUnit_77 : decode b_Q_tryUnit 77 = .ok (.iinc 5 1, 3) := by decide +kernel
theorem d_Q_tryUnit_80 : decode b_Q_tryUnit 80 = .ok (.goto (-66), 3) := by decide +kernel
theorem d_Q_tryUnit_83 : decode b_Q_tryUnit 83 = .ok (.return_, 1) := by decide +kernel
theorem d_Q_tryPlace_0 : decode b_Q_tryPlace 0 = .ok (.aload_n 0, 1) := by decide +kernel
theorem d_Q_tryPlace_1 : decode b_Q_tryPlace 1 = .ok (.getfield 44, 3) := by decide +kernel
theorem d_Q_tryPlace_4 : decode b_Q_tryPlace 4 = .ok (.aload_n 0, 1) := by decide +kernel
theorem d_Q_tryPlace_5 : decode b_Q_tryPlace 5 = .ok (.getfield 41, 3) := by decide +kernel
theorem d_Q_tryPlace_8 : decode b_Q_tryPlace 8 = .ok (.if_icmp .lt 9, 3) := by decide +kernel
theorem d_Q_tryPlace_11 : decode b_Q_tryPlace 11 = .ok (.aload_n 0, 1) := by decide +kernel
theorem d_Q_tryPlace_12 : decode b_Q_tryPlace 12 = .ok (.iconst 1, 1) := by decide +kernel
theorem d_Q_tryPlace_13 : decode b_Q_tryPlace 13 = .ok (.putfield 47, 3) := by decide +kernel
theorem d_Q_tryPlace_16 : decode b_Q_tryPlace 16 = .ok (.return_, 1) := by decide +kernel
theorem d_Q_tryPlace_17 : decode b_Q_tryPlace 17 = .ok (.aload_n 0, 1) := by decide +kernel
theorem d_Q_tryPlace_18 : decode b_Q_tryPlace 18 = .ok (.dup, 1) := by decide +kernel
theorem d_Q_tryPlace_19 : decode b_Q_tryPlace 19 = .ok (.getfield 44, 3) := by decide +kernel
theorem d_Q_tryPlace_22 : decode b_Q_tryPlace 22 = .ok (.iconst 1, 1) := by decide +kernel
theorem d_Q_tryPlace_23 : decode b_Q_tryPlace 23 = .ok (.iadd, 1) := by decide +kernel
theorem d_Q_tryPlace_24 : decode b_Q_tryPlace 24 = .ok (.putfield 44, 3) := by decide +kernel
theorem d_Q_tryPlace_27 : decode b_Q_tryPlace 27 = .ok (.iload 4, 2) := by decide +kernel
theorem d_Q_tryPlace_29 : decode b_Q_tryPlace 29 = .ok (.aload_n 0, 1) := by decide +kernel
theorem d_Q_tryPlace_30 : decode b_Q_tryPlace 30 = .ok (.getfield 9, 3) := by decide +kernel
theorem d_Q_tryPlace_33 : decode b_Q_tryPlace 33 = .ok (.iload_n 1, 1) := by decide +kernel
theorem d_Q_tryPlace_34 : decode b_Q_tryPlace 34 = .ok (.aload_n 0, 1) := by decide +kernel
theorem d_Q_tryPlace_35 : decode b_Q_tryPlace 35 = .ok (.getfield 15, 3) := by decide +kernel
theorem d_Q_tryPlace_38 : decode b_Q_tryPlace 38 = .ok (.getfield 128, 3) := by decide +kernel
theorem d_Q_tryPlace_41 : decode b_Q_tryPlace 41 = .ok (.iload_n 1, 1) := by decide +kernel
theorem d_Q_tryPlace_42 : decode b_Q_tryPlace 42 = .ok (.iaload, 1) := by decide +kernel
theorem d_Q_tryPlace_43 : decode b_Q_tryPlace 43 = .ok (.iload_n 3, 1) := by decide +kernel
theorem d_Q_tryPlace_44 : decode b_Q_tryPlace 44 = .ok (.invokevirtual 131, 3) := by decide +kernel
theorem d_Q_tryPlace_47 : decode b_Q_tryPlace 47 = .ok (.iadd, 1) := by decide +kernel
theorem d_Q_tryPlace_48 : decode b_Q_tryPlace 48 = .ok (.istore 5, 2) := by decide +kernel
theorem d_Q_tryPlace_50 : decode b_Q_tryPlace 50 = .ok (.iload 5, 2) := by decide +kernel
theorem d_Q_tryPlace_52 : decode b_Q_tryPlace 52 = .ok (.aload_n 0, 1) := by decide +kernel
theorem d_Q_tryPlace_53 : decode b_Q_tryPlace 53 = .ok (.getfield 32, 3) := by decide +kernel
theorem d_Q_tryPlace_56 : decode b_Q_tryPlace 56 = .ok (.if_icmp .lt 4, 3) := by decide +kernel
theorem d_Q_tryPlace_59 : decode b_Q_tryPlace 59 = .ok (.return_, 1) := by decide +kernel
theorem d_Q_tryPlace_60 : decode b_Q_tryPlace 60 = .ok (.iload_n 3, 1) := by decide +kernel
theorem d_Q_tryPlace_61 : decode b_Q_tryPlace 61 = .ok (.aload_n 0, 1) := by decide +kernel
theorem d_Q_tryPlace_62 : decode b_Q_tryPlace 62 = .ok (.getfield 9, 3) := by decide +kernel
theorem d_Q_tryPlace_65 : decode b_Q_tryPlace 65 = .ok (.getfield 117, 3) := by decide +kernel
theorem d_Q_tryPlace_68 : decode b_Q_tryPlace 68 = .ok (.iload_n 1, 1) := by decide +kernel
theorem d_Q_tryPlace_69 : decode b_Q_tryPlace 69 = .ok (.iaload, 1) := by decide +kernel
theorem d_Q_tryPlace_70 : decode b_Q_tryPlace 70 = .ok (.invokestatic 120, 3) := by decide +kernel
theorem d_Q_tryPlace_73 : decode b_Q_tryPlace 73 = .ok (.lstore 6, 2) := by decide +kernel
theorem d_Q_tryPlace_75 : decode b_Q_tryPlace 75 = .ok (.aload_n 0, 1) := by decide +kernel
theorem d_Q_tryPlace_76 : decode b_Q_tryPlace 76 = .ok (.getfield 28, 3) := by decide +kernel
theorem d_Q_tryPlace_79 : decode b_Q_tryPlace 79 = .ok (.iload_n 2, 1) := by decide +kernel
theorem d_Q_tryPlace_80 : decode b_Q_tryPlace 80 = .ok (.dup2, 1) := by decide +kernel
theorem d_Q_tryPlace_81 : decode b_Q_tryPlace 81 = .ok (.laload, 1) := by decide +kernel
theorem d_Q_tryPlace_82 : decode b_Q_tryPlace 82 = .ok (.lload 6, 2) := by decide +kernel
theorem d_Q_tryPlace_84 : decode b_Q_tryPlace 84 = .ok (.lor, 1) := by decide +kernel
theorem d_Q_tryPlace_85 : decode b_Q_tryPlace 85 = .ok (.lastore, 1) := by decide +kernel
theorem d_Q_tryPlace_86 : decode b_Q_tryPlace 86 = .ok (.aload_n 0, 1) := by decide +kernel
theorem d_Q_tryPlace_87 : decode b_Q_tryPlace 87 = .ok (.getfield 22, 3) := by decide +kernel
theorem d_Q_tryPlace_90 : decode b_Q_tryPlace 90 = .ok (.iload_n 1, 1) := by decide +kernel
theorem d_Q_tryPlace_91 : decode b_Q_tryPlace 91 = .ok (.iload_n 2, 1) := by decide +kernel
theorem d_Q_tryPlace_92 : decode b_Q_tryPlace 92 = .ok (.iload_n 3, 1) := by decide +kernel
theorem d_Q_tryPlace_93 : decode b_Q_tryPlace 93 = .ok (.invokevirtual 124, 3) := by decide +kernel
theorem d_Q_tryPlace_96 : decode b_Q_tryPlace 96 = .ok (.aload_n 0, 1) := by decide +kernel
theorem d_Q_tryPlace_97 : decode b_Q_tryPlace 97 = .ok (.iload_n 1, 1) := by decide +kernel
theorem d_Q_tryPlace_98 : decode b_Q_tryPlace 98 = .ok (.iconst 1, 1) := by decide +kernel
theorem d_Q_tryPlace_99 : decode b_Q_tryPlace 99 = .ok (.iadd, 1) := by decide +kernel
theorem d_Q_tryPlace_100 : decode b_Q_tryPlace 100 = .ok (.iload 5, 2) := by decide +kernel
theorem d_Q_tryPlace_102 : decode b_Q_tryPlace 102 = .ok (.invokevirtual 99, 3) := by decide +kernel
theorem d_Q_tryPlace_105 : decode b_Q_tryPlace 105 = .ok (.aload_n 0, 1) := by decide +kernel
theorem d_Q_tryPlace_106 : decode b_Q_tryPlace 106 = .ok (.getfield 28, 3) := by decide +kernel
theorem d_Q_tryPlace_109 : decode b_Q_tryPlace 109 = .ok (.iload_n 2, 1) := by decide +kernel
theorem d_Q_tryPlace_110 : decode b_Q_tryPlace 110 = .ok (.dup2, 1) := by decide +kernel
theorem d_Q_tryPlace_111 : decode b_Q_tryPlace 111 = .ok (.laload, 1) := by decide +kernel
theorem d_Q_tryPlace_112 : decode b_Q_tryPlace 112 = .ok (.lload 6, 2) := by decide +kernel
theorem d_Q_tryPlace_114 : decode b_Q_tryPlace 114 = .ok (.ldc2_w 153, 3) := by decide +kernel
theorem d_Q_tryPlace_117 : decode b_Q_tryPlace 117 = .ok (.lxor, 1) := by decide +kernel
theorem d_Q_tryPlace_118 : decode b_Q_tryPlace 118 = .ok (.land, 1) := by decide +kernel
theorem d_Q_tryPlace_119 : decode b_Q_tryPlace 119 = .ok (.lastore, 1) := by decide +kernel
theorem d_Q_tryPlace_120 : decode b_Q_tryPlace 120 = .ok (.return_, 1) := by decide +kernel
theorem d_S_init_0 : decode b_S_init 0 = .ok (.aload_n 0, 1) := by decide +kernel
theorem d_S_init_1 : decode b_S_init 1 = .ok (.invokespecial 3, 3) := by decide +kernel
theorem d_S_init_4 : decode b_S_init 4 = .ok (.aload_n 0, 1) := by decide +kernel
theorem d_S_init_5 : decode b_S_init 5 = .ok (.bipush 8, 2) := by decide +kernel
theorem d_S_init_7 : decode b_S_init 7 = .ok (.newarray .int, 2) := by decide +kernel
theorem d_S_init_9 : decode b_S_init 9 = .ok (.putfield 9, 3) := by decide +kernel
theorem d_S_init_12 : decode b_S_init 12 = .ok (.aload_n 0, 1) := by decide +kernel
theorem d_S_init_13 : decode b_S_init 13 = .ok (.bipush 8, 2) := by decide +kernel
theorem d_S_init_15 : decode b_S_init 15 = .ok (.newarray .int, 2) := by decide +kernel
theorem d_S_init_17 : decode b_S_init 17 = .ok (.putfield 15, 3) := by decide +kernel
theorem d_S_init_20 : decode b_S_init 20 = .ok (.aload_n 0, 1) := by decide +kernel
theorem d_S_init_21 : decode b_S_init 21 = .ok (.bipush 6, 2) := by decide +kernel
theorem d_S_init_23 : decode b_S_init 23 = .ok (.newarray .int, 2) := by decide +kernel
theorem d_S_init_25 : decode b_S_init 25 = .ok (.putfield 18, 3) := by decide +kernel
theorem d_S_init_28 : decode b_S_init 28 = .ok (.aload_n 0, 1) := by decide +kernel
theorem d_S_init_29 : decode b_S_init 29 = .ok (.bipush 6, 2) := by decide +kernel
theorem d_S_init_31 : decode b_S_init 31 = .ok (.newarray .int, 2) := by decide +kernel
theorem d_S_init_33 : decode b_S_init 33 = .ok (.putfield 21, 3) := by decide +kernel
theorem d_S_init_36 : decode b_S_init 36 = .ok (.aload_n 0, 1) := by decide +kernel
theorem d_S_init_37 : decode b_S_init 37 = .ok (.iconst 3, 1) := by decide +kernel
theorem d_S_init_38 : decode b_S_init 38 = .ok (.newarray .long, 2) := by decide +kernel
theorem d_S_init_40 : decode b_S_init 40 = .ok (.putfield 24, 3) := by decide +kernel
theorem d_S_init_43 : decode b_S_init 43 = .ok (.return_, 1) := by decide +kernel
theorem d_S_addOrder_0 : decode b_S_addOrder 0 = .ok (.aload_n 0, 1) := by decide +kernel
theorem d_S_addOrder_1 : decode b_S_addOrder 1 = .ok (.getfield 9, 3) := by decide +kernel
theorem d_S_addOrder_4 : decode b_S_addOrder 4 = .ok (.aload_n 0, 1) := by decide +kernel
theorem d_S_addOrder_5 : decode b_S_addOrder 5 = .ok (.getfield 28, 3) := by decide +kernel
theorem d_S_addOrder_8 : decode b_S_addOrder 8 = .ok (.iload_n 1, 1) := by decide +kernel
theorem d_S_addOrder_9 : decode b_S_addOrder 9 = .ok (.iastore, 1) := by decide +kernel
theorem d_S_addOrder_10 : decode b_S_addOrder 10 = .ok (.aload_n 0, 1) := by decide +kernel
theorem d_S_addOrder_11 : decode b_S_addOrder 11 = .ok (.getfield 15, 3) := by decide +kernel
theorem d_S_addOrder_14 : decode b_S_addOrder 14 = .ok (.aload_n 0, 1) := by decide +kernel
theorem d_S_addOrder_15 : decode b_S_addOrder 15 = .ok (.getfield 28, 3) := by decide +kernel
theorem d_S_addOrder_18 : decode b_S_addOrder 18 = .ok (.iload_n 2, 1) := by decide +kernel
theorem d_S_addOrder_19 : decode b_S_addOrder 19 = .ok (.iastore, 1) := by decide +kernel
theorem d_S_addOrder_20 : decode b_S_addOrder 20 = .ok (.aload_n 0, 1) := by decide +kernel
theorem d_S_addOrder_21 : decode b_S_addOrder 21 = .ok (.dup, 1) := by decide +kernel
theorem d_S_addOrder_22 : decode b_S_addOrder 22 = .ok (.getfield 28, 3) := by decide +kernel
theorem d_S_addOrder_25 : decode b_S_addOrder 25 = .ok (.iconst 1, 1) := by decide +kernel
theorem d_S_addOrder_26 : decode b_S_addOrder 26 = .ok (.iadd, 1) := by decide +kernel
theorem d_S_addOrder_27 : decode b_S_addOrder 27 = .ok (.putfield 28, 3) := by decide +kernel
theorem d_S_addOrder_30 : decode b_S_addOrder 30 = .ok (.aload_n 0, 1) := by decide +kernel
theorem d_S_addOrder_31 : decode b_S_addOrder 31 = .ok (.getfield 28, 3) := by decide +kernel
theorem d_S_addOrder_34 : decode b_S_addOrder 34 = .ok (.iconst 1, 1) := by decide +kernel
theorem d_S_addOrder_35 : decode b_S_addOrder 35 = .ok (.isub, 1) := by decide +kernel
theorem d_S_addOrder_36 : decode b_S_addOrder 36 = .ok (.ireturn, 1) := by decide +kernel
theorem d_S_addHeat_0 : decode b_S_addHeat 0 = .ok (.aload_n 0, 1) := by decide +kernel
theorem d_S_addHeat_1 : decode b_S_addHeat 1 = .ok (.getfield 18, 3) := by decide +kernel
theorem d_S_addHeat_4 : decode b_S_addHeat 4 = .ok (.aload_n 0, 1) := by decide +kernel
theorem d_S_addHeat_5 : decode b_S_addHeat 5 = .ok (.getfield 32, 3) := by decide +kernel
theorem d_S_addHeat_8 : decode b_S_addHeat 8 = .ok (.iload_n 1, 1) := by decide +kernel
theorem d_S_addHeat_9 : decode b_S_addHeat 9 = .ok (.iastore, 1) := by decide +kernel
theorem d_S_addHeat_10 : decode b_S_addHeat 10 = .ok (.aload_n 0, 1) := by decide +kernel
theorem d_S_addHeat_11 : decode b_S_addHeat 11 = .ok (.getfield 21, 3) := by decide +kernel
theorem d_S_addHeat_14 : decode b_S_addHeat 14 = .ok (.aload_n 0, 1) := by decide +kernel
theorem d_S_addHeat_15 : decode b_S_addHeat 15 = .ok (.getfield 32, 3) := by decide +kernel
theorem d_S_addHeat_18 : decode b_S_addHeat 18 = .ok (.iload_n 2, 1) := by decide +kernel
theorem d_S_addHeat_19 : decode b_S_addHeat 19 = .ok (.iastore, 1) := by decide +kernel
theorem d_S_addHeat_20 : decode b_S_addHeat 20 = .ok (.aload_n 0, 1) := by decide +kernel
theorem d_S_addHeat_21 : decode b_S_addHeat 21 = .ok (.dup, 1) := by decide +kernel
theorem d_S_addHeat_22 : decode b_S_addHeat 22 = .ok (.getfield 32, 3) := by decide +kernel
theorem d_S_addHeat_25 : decode b_S_addHeat 25 = .ok (.iconst 1, 1) := by decide +kernel
theorem d_S_addHeat_26 : decode b_S_addHeat 26 = .ok (.iadd, 1) := by decide +kernel
theorem d_S_addHeat_27 : decode b_S_addHeat 27 = .ok (.putfield 32, 3) := by decide +kernel
theorem d_S_addHeat_30 : decode b_S_addHeat 30 = .ok (.aload_n 0, 1) := by decide +kernel
theorem d_S_addHeat_31 : decode b_S_addHeat 31 = .ok (.getfield 32, 3) := by decide +kernel
theorem d_S_addHeat_34 : decode b_S_addHeat 34 = .ok (.iconst 1, 1) := by decide +kernel
theorem d_S_addHeat_35 : decode b_S_addHeat 35 = .ok (.isub, 1) := by decide +kernel
theorem d_S_addHeat_36 : decode b_S_addHeat 36 = .ok (.ireturn, 1) := by decide +kernel
theorem d_S_addStop_0 : decode b_S_addStop 0 = .ok (.aload_n 0, 1) := by decide +kernel
theorem d_S_addStop_1 : decode b_S_addStop 1 = .ok (.getfield 24, 3) := by decide +kernel
theorem d_S_addStop_4 : decode b_S_addStop 4 = .ok (.iload_n 1, 1) := by decide +kernel
theorem d_S_addStop_5 : decode b_S_addStop 5 = .ok (.dup2, 1) := by decide +kernel
theorem d_S_addStop_6 : decode b_S_addStop 6 = .ok (.laload, 1) := by decide +kernel
theorem d_S_addStop_7 : decode b_S_addStop 7 = .ok (.iload_n 2, 1) := by decide +kernel
theorem d_S_addStop_8 : decode b_S_addStop 8 = .ok (.iload_n 3, 1) := by decide +kernel
theorem d_S_addStop_9 : decode b_S_addStop 9 = .ok (.iload_n 2, 1) := by decide +kernel
theorem d_S_addStop_10 : decode b_S_addStop 10 = .ok (.isub, 1) := by decide +kernel
theorem d_S_addStop_11 : decode b_S_addStop 11 = .ok (.invokestatic 35, 3) := by decide +kernel
theorem d_S_addStop_14 : decode b_S_addStop 14 = .ok (.lor, 1) := by decide +kernel
theorem d_S_addStop_15 : decode b_S_addStop 15 = .ok (.lastore, 1) := by decide +kernel
theorem d_S_addStop_16 : decode b_S_addStop 16 = .ok (.aload_n 0, 1) := by decide +kernel
theorem d_S_addStop_17 : decode b_S_addStop 17 = .ok (.dup, 1) := by decide +kernel
theorem d_S_addStop_18 : decode b_S_addStop 18 = .ok (.getfield 39, 3) := by decide +kernel
theorem d_S_addStop_21 : decode b_S_addStop 21 = .ok (.iconst 1, 1) := by decide +kernel
theorem d_S_addStop_22 : decode b_S_addStop 22 = .ok (.iadd, 1) := by decide +kernel
theorem d_S_addStop_23 : decode b_S_addStop 23 = .ok (.putfield 39, 3) := by decide +kernel
theorem d_S_addStop_26 : decode b_S_addStop 26 = .ok (.aload_n 0, 1) := by decide +kernel
theorem d_S_addStop_27 : decode b_S_addStop 27 = .ok (.getfield 39, 3) := by decide +kernel
theorem d_S_addStop_30 : decode b_S_addStop 30 = .ok (.ireturn, 1) := by decide +kernel
theorem d_S_forgetStops_0 : decode b_S_forgetStops 0 = .ok (.iconst 0, 1) := by decide +kernel
theorem d_S_forgetStops_1 : decode b_S_forgetStops 1 = .ok (.istore_n 1, 1) := by decide +kernel
theorem d_S_forgetStops_2 : decode b_S_forgetStops 2 = .ok (.iload_n 1, 1) := by decide +kernel
theorem d_S_forgetStops_3 : decode b_S_forgetStops 3 = .ok (.iconst 3, 1) := by decide +kernel
theorem d_S_forgetStops_4 : decode b_S_forgetStops 4 = .ok (.if_icmp .ge 16, 3) := by decide +kernel
theorem d_S_forgetStops_7 : decode b_S_forgetStops 7 = .ok (.aload_n 0, 1) := by decide +kernel
theorem d_S_forgetStops_8 : decode b_S_forgetStops 8 = .ok (.getfield 24, 3) := by decide +kernel
theorem d_S_forgetStops_11 : decode b_S_forgetStops 11 = .ok (.iload_n 1, 1) := by decide +kernel
theorem d_S_forgetStops_12 : decode b_S_forgetStops 12 = .ok (.lconst 0, 1) := by decide +kernel
theorem d_S_forgetStops_13 : decode b_S_forgetStops 13 = .ok (.lastore, 1) := by decide +kernel
theorem d_S_forgetStops_14 : decode b_S_forgetStops 14 = .ok (.iinc 1 1, 3) := by decide +kernel
theorem d_S_forgetStops_17 : decode b_S_forgetStops 17 = .ok (.goto (-15), 3) := by decide +kernel
theorem d_S_forgetStops_20 : decode b_S_forgetStops 20 = .ok (.aload_n 0, 1) := by decide +kernel
theorem d_S_forgetStops_21 : decode b_S_forgetStops 21 = .ok (.iconst 0, 1) := by decide +kernel
theorem d_S_forgetStops_22 : decode b_S_forgetStops 22 = .ok (.putfield 39, 3) := by decide +kernel
theorem d_S_forgetStops_25 : decode b_S_forgetStops 25 = .ok (.return_, 1) := by decide +kernel
theorem d_S_isFrozen_0 : decode b_S_isFrozen 0 = .ok (.aload_n 1, 1) := by decide +kernel
theorem d_S_isFrozen_1 : decode b_S_isFrozen 1 = .ok (.getfield 42, 3) := by decide +kernel
theorem d_S_isFrozen_4 : decode b_S_isFrozen 4 = .ok (.iload_n 2, 1) := by decide +kernel
theorem d_S_isFrozen_5 : decode b_S_isFrozen 5 = .ok (.iaload, 1) := by decide +kernel
theorem d_S_isFrozen_6 : decode b_S_isFrozen 6 = .ok (.aload_n 0, 1) := by decide +kernel
theorem d_S_isFrozen_7 : decode b_S_isFrozen 7 = .ok (.getfield 47, 3) := by decide +kernel
theorem d_S_isFrozen_10 : decode b_S_isFrozen 10 = .ok (.aload_n 0, 1) := by decide +kernel
theorem d_S_isFrozen_11 : decode b_S_isFrozen 11 = .ok (.getfield 50, 3) := by decide +kernel
theorem d_S_isFrozen_14 : decode b_S_isFrozen 14 = .ok (.iadd, 1) := by decide +kernel
theorem d_S_isFrozen_15 : decode b_S_isFrozen 15 = .ok (.if_icmp .ge 7, 3) := by decide +kernel
theorem d_S_isFrozen_18 : decode b_S_isFrozen 18 = .ok (.iconst 1, 1) := by decide +kernel
theorem d_S_isFrozen_19 : decode b_S_isFrozen 19 = .ok (.goto 4, 3) := by decide +kernel
theorem d_S_isFrozen_22 : decode b_S_isFrozen 22 = .ok (.iconst 0, 1) := by decide +kernel
theorem d_S_isFrozen_23 : decode b_S_isFrozen 23 = .ok (.ireturn, 1) := by decide +kernel
theorem d_S_lateness_0 : decode b_S_lateness 0 = .ok (.iload_n 3, 1) := by decide +kernel
theorem d_S_lateness_1 : decode b_S_lateness 1 = .ok (.aload_n 0, 1) := by decide +kernel
theorem d_S_lateness_2 : decode b_S_lateness 2 = .ok (.getfield 18, 3) := by decide +kernel
theorem d_S_lateness_5 : decode b_S_lateness 5 = .ok (.iload_n 1, 1) := by decide +kernel
theorem d_S_lateness_6 : decode b_S_lateness 6 = .ok (.iaload, 1) := by decide +kernel
theorem d_S_lateness_7 : decode b_S_lateness 7 = .ok (.iadd, 1) := by decide +kernel
theorem d_S_lateness_8 : decode b_S_lateness 8 = .ok (.aload_n 0, 1) := by decide +kernel
theorem d_S_lateness_9 : decode b_S_lateness 9 = .ok (.getfield 15, 3) := by decide +kernel
theorem d_S_lateness_12 : decode b_S_lateness 12 = .ok (.iload_n 2, 1) := by decide +kernel
theorem d_S_lateness_13 : decode b_S_lateness 13 = .ok (.iaload, 1) := by decide +kernel
theorem d_S_lateness_14 : decode b_S_lateness 14 = .ok (.isub, 1) := by decide +kernel
theorem d_S_lateness_15 : decode b_S_lateness 15 = .ok (.istore 4, 2) := by decide +kernel
theorem d_S_lateness_17 : decode b_S_lateness 17 = .ok (.iload 4, 2) := by decide +kernel
theorem d_S_lateness_19 : decode b_S_lateness 19 = .ok (.ifCond .le 8, 3) := by decide +kernel
theorem d_S_lateness_22 : decode b_S_lateness 22 = .ok (.iload 4, 2) := by decide +kernel
theorem d_S_lateness_24 : decode b_S_lateness 24 = .ok (.goto 4, 3) := by decide +kernel
theorem d_S_lateness_27 : decode b_S_lateness 27 = .ok (.iconst 0, 1) := by decide +kernel
theorem d_S_lateness_28 : decode b_S_lateness 28 = .ok (.ireturn, 1) := by decide +kernel
theorem d_S_fits_0 : decode b_S_fits 0 = .ok (.aload_n 0, 1) := by decide +kernel
theorem d_S_fits_1 : decode b_S_fits 1 = .ok (.getfield 21, 3) := by decide +kernel
theorem d_S_fits_4 : decode b_S_fits 4 = .ok (.iload_n 2, 1) := by decide +kernel
theorem d_S_fits_5 : decode b_S_fits 5 = .ok (.iaload, 1) := by decide +kernel
theorem d_S_fits_6 : decode b_S_fits 6 = .ok (.iload_n 3, 1) := by decide +kernel
theorem d_S_fits_7 : decode b_S_fits 7 = .ok (.invokestatic 53, 3) := by decide +kernel
theorem d_S_fits_10 : decode b_S_fits 10 = .ok (.ifCond .eq 25, 3) := by decide +kernel
theorem d_S_fits_13 : decode b_S_fits 13 = .ok (.aload_n 0, 1) := by decide +kernel
theorem d_S_fits_14 : decode b_S_fits 14 = .ok (.aload_n 1, 1) := by decide +kernel
theorem d_S_fits_15 : decode b_S_fits 15 = .ok (.iload_n 2, 1) := by decide +kernel
theorem d_S_fits_16 : decode b_S_fits 16 = .ok (.iload_n 3, 1) := by decide +kernel
theorem d_S_fits_17 : decode b_S_fits 17 = .ok (.iload 4, 2) := by decide +kernel
theorem d_S_fits_19 : decode b_S_fits 19 = .ok (.aload_n 0, 1) := by decide +kernel
theorem d_S_fits_20 : decode b_S_fits 20 = .ok (.getfield 18, 3) := by decide +kernel
theorem d_S_fits_23 : decode b_S_fits 23 = .ok (.iload_n 2, 1) := by decide +kernel
theorem d_S_fits_24 : decode b_S_fits 24 = .ok (.iaload, 1) := by decide +kernel
theorem d_S_fits_25 : decode b_S_fits 25 = .ok (.invokevirtual 57, 3) := by decide +kernel
theorem d_S_fits_28 : decode b_S_fits 28 = .ok (.ifCond .eq 7, 3) := by decide +kernel
theorem d_S_fits_31 : decode b_S_fits 31 = .ok (.iconst 1, 1) := by decide +kernel
theorem d_S_fits_32 : decode b_S_fits 32 = .ok (.goto 4, 3) := by decide +kernel
theorem d_S_fits_35 : decode b_S_fits 35 = .ok (.iconst 0, 1) := by decide +kernel
theorem d_S_fits_36 : decode b_S_fits 36 = .ok (.ireturn, 1) := by decide +kernel
theorem d_S_hasRoom_0 : decode b_S_hasRoom 0 = .ok (.iload 4, 2) := by decide +kernel
theorem d_S_hasRoom_2 : decode b_S_hasRoom 2 = .ok (.iload 5, 2) := by decide +kernel
theorem d_S_hasRoom_4 : decode b_S_hasRoom 4 = .ok (.iadd, 1) := by decide +kernel
theorem d_S_hasRoom_5 : decode b_S_hasRoom 5 = .ok (.bipush 60, 2) := by decide +kernel
theorem d_S_hasRoom_7 : decode b_S_hasRoom 7 = .ok (.if_icmp .le 5, 3) := by decide +kernel
theorem d_S_hasRoom_10 : decode b_S_hasRoom 10 = .ok (.iconst 0, 1) := by decide +kernel
theorem d_S_hasRoom_11 : decode b_S_hasRoom 11 = .ok (.ireturn, 1) := by decide +kernel
theorem d_S_hasRoom_12 : decode b_S_hasRoom 12 = .ok (.aload_n 0, 1) := by decide +kernel
theorem d_S_hasRoom_13 : decode b_S_hasRoom 13 = .ok (.getfield 24, 3) := by decide +kernel
theorem d_S_hasRoom_16 : decode b_S_hasRoom 16 = .ok (.iload_n 3, 1) := by decide +kernel
theorem d_S_hasRoom_17 : decode b_S_hasRoom 17 = .ok (.laload, 1) := by decide +kernel
theorem d_S_hasRoom_18 : decode b_S_hasRoom 18 = .ok (.lstore 6, 2) := by decide +kernel
theorem d_S_hasRoom_20 : decode b_S_hasRoom 20 = .ok (.iconst 0, 1) := by decide +kernel
theorem d_S_hasRoom_21 : decode b_S_hasRoom 21 = .ok (.istore 8, 2) := by decide +kernel
theorem d_S_hasRoom_23 : decode b_S_hasRoom 23 = .ok (.iload 8, 2) := by decide +kernel
theorem d_S_hasRoom_25 : decode b_S_hasRoom 25 = .ok (.aload_n 0, 1) := by decide +kernel
theorem d_S_hasRoom_26 : decode b_S_hasRoom 26 = .ok (.getfield 32, 3) := by decide +kernel
theorem d_S_hasRoom_29 : decode b_S_hasRoom 29 = .ok (.if_icmp .ge 48, 3) := by decide +kernel
theorem d_S_hasRoom_32 : decode b_S_hasRoom 32 = .ok (.iload 8, 2) := by decide +kernel
theorem d_S_hasRoom_34 : decode b_S_hasRoom 34 = .ok (.iload_n 2, 1) := by decide +kernel
theorem d_S_hasRoom_35 : decode b_S_hasRoom 35 = .ok (.if_icmp .eq 36, 3) := by decide +kernel
theorem d_S_hasRoom_38 : decode b_S_hasRoom 38 = .ok (.aload_n 1, 1) := by decide +kernel
theorem d_S_hasRoom_39 : decode b_S_hasRoom 39 = .ok (.getfield 61, 3) := by decide +kernel
theorem d_S_hasRoom_42 : decode b_S_hasRoom 42 = .ok (.iload 8, 2) := by decide +kernel
theorem d_S_hasRoom_44 : decode b_S_hasRoom 44 = .ok (.iaload, 1) := by decide +kernel
theorem d_S_hasRoom_45 : decode b_S_hasRoom 45 = .ok (.iload_n 3, 1) := by decide +kernel
theorem d_S_hasRoom_46 : decode b_S_hasRoom 46 = .ok (.if_icmp .ne 25, 3) := by decide +kernel
theorem d_S_hasRoom_49 : decode b_S_hasRoom 49 = .ok (.lload 6, 2) := by decide +kernel
theorem d_S_hasRoom_51 : decode b_S_hasRoom 51 = .ok (.aload_n 1, 1) := by decide +kernel
theorem d_S_hasRoom_52 : decode b_S_hasRoom 52 = .ok (.getfield 42, 3) := by decide +kernel
theorem d_S_hasRoom_55 : decode b_S_hasRoom 55 = .ok (.iload 8, 2) := by decide +kernel
theorem d_S_hasRoom_57 : decode b_S_hasRoom 57 = .ok (.iaload, 1) := by decide +kernel
theorem d_S_hasRoom_58 : decode b_S_hasRoom 58 = .ok (.aload_n 0, 1) := by decide +kernel
theorem d_S_hasRoom_59 : decode b_S_hasRoom 59 = .ok (.getfield 18, 3) := by decide +kernel
theorem d_S_hasRoom_62 : decode b_S_hasRoom 62 = .ok (.iload 8, 2) := by decide +kernel
theorem d_S_hasRoom_64 : decode b_S_hasRoom 64 = .ok (.iaload, 1) := by decide +kernel
theorem d_S_hasRoom_65 : decode b_S_hasRoom 65 = .ok (.invokestatic 35, 3) := by decide +kernel
theorem d_S_hasRoom_68 : decode b_S_hasRoom 68 = .ok (.lor, 1) := by decide +kernel
theorem d_S_hasRoom_69 : decode b_S_hasRoom 69 = .ok (.lstore 6, 2) := by decide +kernel
theorem d_S_hasRoom_71 : decode b_S_hasRoom 71 = .ok (.iinc 8 1, 3) := by decide +kernel
theorem d_S_hasRoom_74 : decode b_S_hasRoom 74 = .ok (.goto (-51), 3) := by decide +kernel
theorem d_S_hasRoom_77 : decode b_S_hasRoom 77 = .ok (.lload 6, 2) := by decide +kernel
theorem d_S_hasRoom_79 : decode b_S_hasRoom 79 = .ok (.iload 4, 2) := by decide +kernel
theorem d_S_hasRoom_81 : decode b_S_hasRoom 81 = .ok (.iload 5, 2) := by decide +kernel
theorem d_S_hasRoom_83 : decode b_S_hasRoom 83 = .ok (.invokestatic 35, 3) := by decide +kernel
theorem d_S_hasRoom_86 : decode b_S_hasRoom 86 = .ok (.land, 1) := by decide +kernel
theorem d_S_hasRoom_87 : decode b_S_hasRoom 87 = .ok (.lconst 0, 1) := by decide +kernel
theorem d_S_hasRoom_88 : decode b_S_hasRoom 88 = .ok (.lcmp, 1) := by decide +kernel
theorem d_S_hasRoom_89 : decode b_S_hasRoom 89 = .ok (.ifCond .ne 7, 3) := by decide +kernel
theorem d_S_hasRoom_92 : decode b_S_hasRoom 92 = .ok (.iconst 1, 1) := by decide +kernel
theorem d_S_hasRoom_93 : decode b_S_hasRoom 93 = .ok (.goto 4, 3) := by decide +kernel
theorem d_S_hasRoom_96 : decode b_S_hasRoom 96 = .ok (.iconst 0, 1) := by decide +kernel
theorem d_S_hasRoom_97 : decode b_S_hasRoom 97 = .ok (.ireturn, 1) := by decide +kernel
theorem d_I_bitCount_0 : decode b_I_bitCount 0 = .ok (.iload_n 0, 1) := by decide +kernel
theorem d_I_bitCount_1 : decode b_I_bitCount 1 = .ok (.iload_n 0, 1) := by decide +kernel
theorem d_I_bitCount_2 : decode b_I_bitCount 2 = .ok (.iconst 1, 1) := by decide +kernel
theorem d_I_bitCount_3 : decode b_I_bitCount 3 = .ok (.iushr, 1) := by decide +kernel
theorem d_I_bitCount_4 : decode b_I_bitCount 4 = .ok (.ldc_w 265, 3) := by decide +kernel
theorem d_I_bitCount_7 : decode b_I_bitCount 7 = .ok (.iand, 1) := by decide +kernel
theorem d_I_bitCount_8 : decode b_I_bitCount 8 = .ok (.isub, 1) := by decide +kernel
theorem d_I_bitCount_9 : decode b_I_bitCount 9 = .ok (.istore_n 0, 1) := by decide +kernel
theorem d_I_bitCount_10 : decode b_I_bitCount 10 = .ok (.iload_n 0, 1) := by decide +kernel
theorem d_I_bitCount_11 : decode b_I_bitCount 11 = .ok (.ldc_w 266, 3) := by decide +kernel
theorem d_I_bitCount_14 : decode b_I_bitCount 14 = .ok (.iand, 1) := by decide +kernel
theorem d_I_bitCount_15 : decode b_I_bitCount 15 = .ok (.iload_n 0, 1) := by decide +kernel
theorem d_I_bitCount_16 : decode b_I_bitCount 16 = .ok (.iconst 2, 1) := by decide +kernel
theorem d_I_bitCount_17 : decode b_I_bitCount 17 = .ok (.iushr, 1) := by decide +kernel
theorem d_I_bitCount_18 : decode b_I_bitCount 18 = .ok (.ldc_w 266, 3) := by decide +kernel
theorem d_I_bitCount_21 : decode b_I_bitCount 21 = .ok (.iand, 1) := by decide +kernel
theorem d_I_bitCount_22 : decode b_I_bitCount 22 = .ok (.iadd, 1) := by decide +kernel
theorem d_I_bitCount_23 : decode b_I_bitCount 23 = .ok (.istore_n 0, 1) := by decide +kernel
theorem d_I_bitCount_24 : decode b_I_bitCount 24 = .ok (.iload_n 0, 1) := by decide +kernel
theorem d_I_bitCount_25 : decode b_I_bitCount 25 = .ok (.iload_n 0, 1) := by decide +kernel
theorem d_I_bitCount_26 : decode b_I_bitCount 26 = .ok (.iconst 4, 1) := by decide +kernel
theorem d_I_bitCount_27 : decode b_I_bitCount 27 = .ok (.iushr, 1) := by decide +kernel
theorem d_I_bitCount_28 : decode b_I_bitCount 28 = .ok (.iadd, 1) := by decide +kernel
theorem d_I_bitCount_29 : decode b_I_bitCount 29 = .ok (.ldc_w 267, 3) := by decide +kernel
theorem d_I_bitCount_32 : decode b_I_bitCount 32 = .ok (.iand, 1) := by decide +kernel
theorem d_I_bitCount_33 : decode b_I_bitCount 33 = .ok (.istore_n 0, 1) := by decide +kernel
theorem d_I_bitCount_34 : decode b_I_bitCount 34 = .ok (.iload_n 0, 1) := by decide +kernel
theorem d_I_bitCount_35 : decode b_I_bitCount 35 = .ok (.iload_n 0, 1) := by decide +kernel
theorem d_I_bitCount_36 : decode b_I_bitCount 36 = .ok (.bipush 8, 2) := by decide +kernel
theorem d_I_bitCount_38 : decode b_I_bitCount 38 = .ok (.iushr, 1) := by decide +kernel
theorem d_I_bitCount_39 : decode b_I_bitCount 39 = .ok (.iadd, 1) := by decide +kernel
theorem d_I_bitCount_40 : decode b_I_bitCount 40 = .ok (.istore_n 0, 1) := by decide +kernel
theorem d_I_bitCount_41 : decode b_I_bitCount 41 = .ok (.iload_n 0, 1) := by decide +kernel
theorem d_I_bitCount_42 : decode b_I_bitCount 42 = .ok (.iload_n 0, 1) := by decide +kernel
theorem d_I_bitCount_43 : decode b_I_bitCount 43 = .ok (.bipush 16, 2) := by decide +kernel
theorem d_I_bitCount_45 : decode b_I_bitCount 45 = .ok (.iushr, 1) := by decide +kernel
theorem d_I_bitCount_46 : decode b_I_bitCount 46 = .ok (.iadd, 1) := by decide +kernel
theorem d_I_bitCount_47 : decode b_I_bitCount 47 = .ok (.istore_n 0, 1) := by decide +kernel
theorem d_I_bitCount_48 : decode b_I_bitCount 48 = .ok (.iload_n 0, 1) := by decide +kernel
theorem d_I_bitCount_49 : decode b_I_bitCount 49 = .ok (.bipush 63, 2) := by decide +kernel
theorem d_I_bitCount_51 : decode b_I_bitCount 51 = .ok (.iand, 1) := by decide +kernel
theorem d_I_bitCount_52 : decode b_I_bitCount 52 = .ok (.ireturn, 1) := by decide +kernel
