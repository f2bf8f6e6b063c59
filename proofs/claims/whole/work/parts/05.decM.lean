theorem d_M_init_0 : decode b_M_init 0 = .ok (.aload_n 0, 1) := by decide +kernel
theorem d_M_init_1 : decode b_M_init 1 = .ok (.invokespecial 1, 3) := by decide +kernel
theorem d_M_init_4 : decode b_M_init 4 = .ok (.aload_n 0, 1) := by decide +kernel
theorem d_M_init_5 : decode b_M_init 5 = .ok (.bipush 8, 2) := by decide +kernel
theorem d_M_init_7 : decode b_M_init 7 = .ok (.newarray .int, 2) := by decide +kernel
theorem d_M_init_9 : decode b_M_init 9 = .ok (.putfield 7, 3) := by decide +kernel
theorem d_M_init_12 : decode b_M_init 12 = .ok (.aload_n 0, 1) := by decide +kernel
theorem d_M_init_13 : decode b_M_init 13 = .ok (.bipush 8, 2) := by decide +kernel
theorem d_M_init_15 : decode b_M_init 15 = .ok (.newarray .int, 2) := by decide +kernel
theorem d_M_init_17 : decode b_M_init 17 = .ok (.putfield 13, 3) := by decide +kernel
theorem d_M_init_20 : decode b_M_init 20 = .ok (.aload_n 0, 1) := by decide +kernel
theorem d_M_init_21 : decode b_M_init 21 = .ok (.bipush 6, 2) := by decide +kernel
theorem d_M_init_23 : decode b_M_init 23 = .ok (.newarray .int, 2) := by decide +kernel
theorem d_M_init_25 : decode b_M_init 25 = .ok (.putfield 16, 3) := by decide +kernel
theorem d_M_init_28 : decode b_M_init 28 = .ok (.aload_n 0, 1) := by decide +kernel
theorem d_M_init_29 : decode b_M_init 29 = .ok (.bipush 6, 2) := by decide +kernel
theorem d_M_init_31 : decode b_M_init 31 = .ok (.newarray .int, 2) := by decide +kernel
theorem d_M_init_33 : decode b_M_init 33 = .ok (.putfield 19, 3) := by decide +kernel
theorem d_M_init_36 : decode b_M_init 36 = .ok (.aload_n 0, 1) := by decide +kernel
theorem d_M_init_37 : decode b_M_init 37 = .ok (.sipush 144, 3) := by decide +kernel
theorem d_M_init_40 : decode b_M_init 40 = .ok (.newarray .int, 2) := by decide +kernel
theorem d_M_init_42 : decode b_M_init 42 = .ok (.putfield 22, 3) := by decide +kernel
theorem d_M_init_45 : decode b_M_init 45 = .ok (.aload_n 0, 1) := by decide +kernel
theorem d_M_init_46 : decode b_M_init 46 = .ok (.bipush 10, 2) := by decide +kernel
theorem d_M_init_48 : decode b_M_init 48 = .ok (.newarray .int, 2) := by decide +kernel
theorem d_M_init_50 : decode b_M_init 50 = .ok (.putfield 25, 3) := by decide +kernel
theorem d_M_init_53 : decode b_M_init 53 = .ok (.aload_n 0, 1) := by decide +kernel
theorem d_M_init_54 : decode b_M_init 54 = .ok (.bipush 10, 2) := by decide +kernel
theorem d_M_init_56 : decode b_M_init 56 = .ok (.newarray .int, 2) := by decide +kernel
theorem d_M_init_58 : decode b_M_init 58 = .ok (.putfield 28, 3) := by decide +kernel
theorem d_M_init_61 : decode b_M_init 61 = .ok (.aload_n 0, 1) := by decide +kernel
theorem d_M_init_62 : decode b_M_init 62 = .ok (.bipush 10, 2) := by decide +kernel
theorem d_M_init_64 : decode b_M_init 64 = .ok (.newarray .int, 2) := by decide +kernel
theorem d_M_init_66 : decode b_M_init 66 = .ok (.putfield 31, 3) := by decide +kernel
theorem d_M_init_69 : decode b_M_init 69 = .ok (.aload_n 0, 1) := by decide +kernel
theorem d_M_init_70 : decode b_M_init 70 = .ok (.bipush 6, 2) := by decide +kernel
theorem d_M_init_72 : decode b_M_init 72 = .ok (.newarray .boolean, 2) := by decide +kernel
theorem d_M_init_74 : decode b_M_init 74 = .ok (.putfield 34, 3) := by decide +kernel
theorem d_M_init_77 : decode b_M_init 77 = .ok (.return_, 1) := by decide +kernel
theorem d_M_thrown_0 : decode b_M_thrown 0 = .ok (.aload_n 0, 1) := by decide +kernel
theorem d_M_thrown_1 : decode b_M_thrown 1 = .ok (.getfield 38, 3) := by decide +kernel
theorem d_M_thrown_4 : decode b_M_thrown 4 = .ok (.ireturn, 1) := by decide +kernel
theorem d_M_throwing_0 : decode b_M_throwing 0 = .ok (.aload_n 0, 1) := by decide +kernel
theorem d_M_throwing_1 : decode b_M_throwing 1 = .ok (.iload_n 1, 1) := by decide +kernel
theorem d_M_throwing_2 : decode b_M_throwing 2 = .ok (.ifCond .eq 7, 3) := by decide +kernel
theorem d_M_throwing_5 : decode b_M_throwing 5 = .ok (.iconst 1, 1) := by decide +kernel
theorem d_M_throwing_6 : decode b_M_throwing 6 = .ok (.goto 29, 3) := by decide +kernel
theorem d_M_throwing_9 : decode b_M_throwing 9 = .ok (.iload_n 2, 1) := by decide +kernel
theorem d_M_throwing_10 : decode b_M_throwing 10 = .ok (.ifCond .eq 7, 3) := by decide +kernel
theorem d_M_throwing_13 : decode b_M_throwing 13 = .ok (.iconst 2, 1) := by decide +kernel
theorem d_M_throwing_14 : decode b_M_throwing 14 = .ok (.goto 21, 3) := by decide +kernel
theorem d_M_throwing_17 : decode b_M_throwing 17 = .ok (.iload_n 3, 1) := by decide +kernel
theorem d_M_throwing_18 : decode b_M_throwing 18 = .ok (.ifCond .eq 7, 3) := by decide +kernel
theorem d_M_throwing_21 : decode b_M_throwing 21 = .ok (.iconst 3, 1) := by decide +kernel
theorem d_M_throwing_22 : decode b_M_throwing 22 = .ok (.goto 13, 3) := by decide +kernel
theorem d_M_throwing_25 : decode b_M_throwing 25 = .ok (.iload 4, 2) := by decide +kernel
theorem d_M_throwing_27 : decode b_M_throwing 27 = .ok (.ifCond .eq 7, 3) := by decide +kernel
theorem d_M_throwing_30 : decode b_M_throwing 30 = .ok (.iconst 4, 1) := by decide +kernel
theorem d_M_throwing_31 : decode b_M_throwing 31 = .ok (.goto 4, 3) := by decide +kernel
theorem d_M_throwing_34 : decode b_M_throwing 34 = .ok (.iconst 0, 1) := by decide +kernel
theorem d_M_throwing_35 : decode b_M_throwing 35 = .ok (.putfield 38, 3) := by decide +kernel
theorem d_M_throwing_38 : decode b_M_throwing 38 = .ok (.aload_n 0, 1) := by decide +kernel
theorem d_M_throwing_39 : decode b_M_throwing 39 = .ok (.getfield 38, 3) := by decide +kernel
theorem d_M_throwing_42 : decode b_M_throwing 42 = .ok (.ifCond .le 7, 3) := by decide +kernel
theorem d_M_throwing_45 : decode b_M_throwing 45 = .ok (.iconst 1, 1) := by decide +kernel
theorem d_M_throwing_46 : decode b_M_throwing 46 = .ok (.goto 4, 3) := by decide +kernel
theorem d_M_throwing_49 : decode b_M_throwing 49 = .ok (.iconst 0, 1) := by decide +kernel
theorem d_M_throwing_50 : decode b_M_throwing 50 = .ok (.ireturn, 1) := by decide +kernel
theorem d_M_in_0 : decode b_M_in 0 = .ok (.iload_n 0, 1) := by decide +kernel
theorem d_M_in_1 : decode b_M_in 1 = .ok (.iload_n 1, 1) := by decide +kernel
theorem d_M_in_2 : decode b_M_in 2 = .ok (.if_icmp .lt 12, 3) := by decide +kernel
theorem d_M_in_5 : decode b_M_in 5 = .ok (.iload_n 0, 1) := by decide +kernel
theorem d_M_in_6 : decode b_M_in 6 = .ok (.iload_n 2, 1) := by decide +kernel
theorem d_M_in_7 : decode b_M_in 7 = .ok (.if_icmp .gt 7, 3) := by decide +kernel
theorem d_M_in_10 : decode b_M_in 10 = .ok (.iconst 1, 1) := by decide +kernel
theorem d_M_in_11 : decode b_M_in 11 = .ok (.goto 4, 3) := by decide +kernel
theorem d_M_in_14 : decode b_M_in 14 = .ok (.iconst 0, 1) := by decide +kernel
theorem d_M_in_15 : decode b_M_in 15 = .ok (.ireturn, 1) := by decide +kernel
theorem d_M_isHeat_0 : decode b_M_isHeat 0 = .ok (.iload_n 1, 1) := by decide +kernel
theorem d_M_isHeat_1 : decode b_M_isHeat 1 = .ok (.iconst 0, 1) := by decide +kernel
theorem d_M_isHeat_2 : decode b_M_isHeat 2 = .ok (.aload_n 0, 1) := by decide +kernel
theorem d_M_isHeat_3 : decode b_M_isHeat 3 = .ok (.getfield 42, 3) := by decide +kernel
theorem d_M_isHeat_6 : decode b_M_isHeat 6 = .ok (.iconst 1, 1) := by decide +kernel
theorem d_M_isHeat_7 : decode b_M_isHeat 7 = .ok (.isub, 1) := by decide +kernel
theorem d_M_isHeat_8 : decode b_M_isHeat 8 = .ok (.invokestatic 45, 3) := by decide +kernel
theorem d_M_isHeat_11 : decode b_M_isHeat 11 = .ok (.ireturn, 1) := by decide +kernel
theorem d_M_copy_0 : decode b_M_copy 0 = .ok (.iconst 0, 1) := by decide +kernel
theorem d_M_copy_1 : decode b_M_copy 1 = .ok (.istore_n 3, 1) := by decide +kernel
theorem d_M_copy_2 : decode b_M_copy 2 = .ok (.iload_n 3, 1) := by decide +kernel
theorem d_M_copy_3 : decode b_M_copy 3 = .ok (.bipush 18, 2) := by decide +kernel
theorem d_M_copy_5 : decode b_M_copy 5 = .ok (.if_icmp .ge 25, 3) := by decide +kernel
theorem d_M_copy_8 : decode b_M_copy 8 = .ok (.aload_n 0, 1) := by decide +kernel
theorem d_M_copy_9 : decode b_M_copy 9 = .ok (.getfield 22, 3) := by decide +kernel
theorem d_M_copy_12 : decode b_M_copy 12 = .ok (.iload_n 2, 1) := by decide +kernel
theorem d_M_copy_13 : decode b_M_copy 13 = .ok (.iload_n 3, 1) := by decide +kernel
theorem d_M_copy_14 : decode b_M_copy 14 = .ok (.iadd, 1) := by decide +kernel
theorem d_M_copy_15 : decode b_M_copy 15 = .ok (.aload_n 0, 1) := by decide +kernel
theorem d_M_copy_16 : decode b_M_copy 16 = .ok (.getfield 22, 3) := by decide +kernel
theorem d_M_copy_19 : decode b_M_copy 19 = .ok (.iload_n 1, 1) := by decide +kernel
theorem d_M_copy_20 : decode b_M_copy 20 = .ok (.iload_n 3, 1) := by decide +kernel
theorem d_M_copy_21 : decode b_M_copy 21 = .ok (.iadd, 1) := by decide +kernel
theorem d_M_copy_22 : decode b_M_copy 22 = .ok (.iaload, 1) := by decide +kernel
theorem d_M_copy_23 : decode b_M_copy 23 = .ok (.iastore, 1) := by decide +kernel
theorem d_M_copy_24 : decode b_M_copy 24 = .ok (.iinc 3 1, 3) := by decide +kernel
theorem d_M_copy_27 : decode b_M_copy 27 = .ok (.goto (-25), 3) := by decide +kernel
theorem d_M_copy_30 : decode b_M_copy 30 = .ok (.return_, 1) := by decide +kernel
theorem d_M_isFree_0 : decode b_M_isFree 0 = .ok (.aload_n 0, 1) := by decide +kernel
theorem d_M_isFree_1 : decode b_M_isFree 1 = .ok (.getfield 19, 3) := by decide +kernel
theorem d_M_isFree_4 : decode b_M_isFree 4 = .ok (.iload_n 1, 1) := by decide +kernel
theorem d_M_isFree_5 : decode b_M_isFree 5 = .ok (.iaload, 1) := by decide +kernel
theorem d_M_isFree_6 : decode b_M_isFree 6 = .ok (.iload_n 2, 1) := by decide +kernel
theorem d_M_isFree_7 : decode b_M_isFree 7 = .ok (.ishr, 1) := by decide +kernel
theorem d_M_isFree_8 : decode b_M_isFree 8 = .ok (.iconst 1, 1) := by decide +kernel
theorem d_M_isFree_9 : decode b_M_isFree 9 = .ok (.iand, 1) := by decide +kernel
theorem d_M_isFree_10 : decode b_M_isFree 10 = .ok (.iconst 1, 1) := by decide +kernel
theorem d_M_isFree_11 : decode b_M_isFree 11 = .ok (.if_icmp .ne 20, 3) := by decide +kernel
theorem d_M_isFree_14 : decode b_M_isFree 14 = .ok (.iload_n 3, 1) := by decide +kernel
theorem d_M_isFree_15 : decode b_M_isFree 15 = .ok (.aload_n 0, 1) := by decide +kernel
theorem d_M_isFree_16 : decode b_M_isFree 16 = .ok (.getfield 16, 3) := by decide +kernel
theorem d_M_isFree_19 : decode b_M_isFree 19 = .ok (.iload_n 1, 1) := by decide +kernel
theorem d_M_isFree_20 : decode b_M_isFree 20 = .ok (.iaload, 1) := by decide +kernel
theorem d_M_isFree_21 : decode b_M_isFree 21 = .ok (.iadd, 1) := by decide +kernel
theorem d_M_isFree_22 : decode b_M_isFree 22 = .ok (.bipush 60, 2) := by decide +kernel
theorem d_M_isFree_24 : decode b_M_isFree 24 = .ok (.if_icmp .gt 7, 3) := by decide +kernel
theorem d_M_isFree_27 : decode b_M_isFree 27 = .ok (.iconst 1, 1) := by decide +kernel
theorem d_M_isFree_28 : decode b_M_isFree 28 = .ok (.goto 4, 3) := by decide +kernel
theorem d_M_isFree_31 : decode b_M_isFree 31 = .ok (.iconst 0, 1) := by decide +kernel
theorem d_M_isFree_32 : decode b_M_isFree 32 = .ok (.istore 4, 2) := by decide +kernel
theorem d_M_isFree_34 : decode b_M_isFree 34 = .ok (.iconst 0, 1) := by decide +kernel
theorem d_M_isFree_35 : decode b_M_isFree 35 = .ok (.istore 5, 2) := by decide +kernel
theorem d_M_isFree_37 : decode b_M_isFree 37 = .ok (.iload 5, 2) := by decide +kernel
theorem d_M_isFree_39 : decode b_M_isFree 39 = .ok (.aload_n 0, 1) := by decide +kernel
theorem d_M_isFree_40 : decode b_M_isFree 40 = .ok (.getfield 49, 3) := by decide +kernel
theorem d_M_isFree_43 : decode b_M_isFree 43 = .ok (.if_icmp .ge 61, 3) := by decide +kernel
theorem d_M_isFree_46 : decode b_M_isFree 46 = .ok (.iload 4, 2) := by decide +kernel
theorem d_M_isFree_48 : decode b_M_isFree 48 = .ok (.ifCond .eq 47, 3) := by decide +kernel
theorem d_M_isFree_51 : decode b_M_isFree 51 = .ok (.aload_n 0, 1) := by decide +kernel
theorem d_M_isFree_52 : decode b_M_isFree 52 = .ok (.getfield 25, 3) := by decide +kernel
theorem d_M_isFree_55 : decode b_M_isFree 55 = .ok (.iload 5, 2) := by decide +kernel
theorem d_M_isFree_57 : decode b_M_isFree 57 = .ok (.iaload, 1) := by decide +kernel
theorem d_M_isFree_58 : decode b_M_isFree 58 = .ok (.iload_n 2, 1) := by decide +kernel
theorem d_M_isFree_59 : decode b_M_isFree 59 = .ok (.if_icmp .ne 32, 3) := by decide +kernel
theorem d_M_isFree_62 : decode b_M_isFree 62 = .ok (.iload_n 3, 1) := by decide +kernel
theorem d_M_isFree_63 : decode b_M_isFree 63 = .ok (.aload_n 0, 1) := by decide +kernel
theorem d_M_isFree_64 : decode b_M_isFree 64 = .ok (.getfield 31, 3) := by decide +kernel
theorem d_M_isFree_67 : decode b_M_isFree 67 = .ok (.iload 5, 2) := by decide +kernel
theorem d_M_isFree_69 : decode b_M_isFree 69 = .ok (.iaload, 1) := by decide +kernel
theorem d_M_isFree_70 : decode b_M_isFree 70 = .ok (.if_icmp .ge 21, 3) := by decide +kernel
theorem d_M_isFree_73 : decode b_M_isFree 73 = .ok (.iload_n 3, 1) := by decide +kernel
theorem d_M_isFree_74 : decode b_M_isFree 74 = .ok (.aload_n 0, 1) := by decide +kernel
theorem d_M_isFree_75 : decode b_M_isFree 75 = .ok (.getfield 16, 3) := by decide +kernel
theorem d_M_isFree_78 : decode b_M_isFree 78 = .ok (.iload_n 1, 1) := by decide +kernel
theorem d_M_isFree_79 : decode b_M_isFree 79 = .ok (.iaload, 1) := by decide +kernel
theorem d_M_isFree_80 : decode b_M_isFree 80 = .ok (.iadd, 1) := by decide +kernel
theorem d_M_isFree_81 : decode b_M_isFree 81 = .ok (.aload_n 0, 1) := by decide +kernel
theorem d_M_isFree_82 : decode b_M_isFree 82 = .ok (.getfield 28, 3) := by decide +kernel
theorem d_M_isFree_85 : decode b_M_isFree 85 = .ok (.iload 5, 2) := by decide +kernel
theorem d_M_isFree_87 : decode b_M_isFree 87 = .ok (.iaload, 1) := by decide +kernel
theorem d_M_isFree_88 : decode b_M_isFree 88 = .ok (.if_icmp .gt 7, 3) := by decide +kernel
theorem d_M_isFree_91 : decode b_M_isFree 91 = .ok (.iconst 1, 1) := by decide +kernel
theorem d_M_isFree_92 : decode b_M_isFree 92 = .ok (.goto 4, 3) := by decide +kernel
theorem d_M_isFree_95 : decode b_M_isFree 95 = .ok (.iconst 0, 1) := by decide +kernel
theorem d_M_isFree_96 : decode b_M_isFree 96 = .ok (.istore 4, 2) := by decide +kernel
theorem d_M_isFree_98 : decode b_M_isFree 98 = .ok (.iinc 5 1, 3) := by decide +kernel
theorem d_M_isFree_101 : decode b_M_isFree 101 = .ok (.goto (-64), 3) := by decide +kernel
theorem d_M_isFree_104 : decode b_M_isFree 104 = .ok (.iload 4, 2) := by decide +kernel
theorem d_M_isFree_106 : decode b_M_isFree 106 = .ok (.ireturn, 1) := by decide +kernel
theorem d_M_meets_0 : decode b_M_meets 0 = .ok (.iload_n 1, 1) := by decide +kernel
theorem d_M_meets_1 : decode b_M_meets 1 = .ok (.iconst 3, 1) := by decide +kernel
theorem d_M_meets_2 : decode b_M_meets 2 = .ok (.iload_n 3, 1) := by decide +kernel
theorem d_M_meets_3 : decode b_M_meets 3 = .ok (.imul, 1) := by decide +kernel
theorem d_M_meets_4 : decode b_M_meets 4 = .ok (.iadd, 1) := by decide +kernel
theorem d_M_meets_5 : decode b_M_meets 5 = .ok (.istore 6, 2) := by decide +kernel
theorem d_M_meets_7 : decode b_M_meets 7 = .ok (.iload_n 3, 1) := by decide +kernel
theorem d_M_meets_8 : decode b_M_meets 8 = .ok (.iload_n 2, 1) := by decide +kernel
theorem d_M_meets_9 : decode b_M_meets 9 = .ok (.if_icmp .eq 61, 3) := by decide +kernel
theorem d_M_meets_12 : decode b_M_meets 12 = .ok (.aload_n 0, 1) := by decide +kernel
theorem d_M_meets_13 : decode b_M_meets 13 = .ok (.getfield 22, 3) := by decide +kernel
theorem d_M_meets_16 : decode b_M_meets 16 = .ok (.iload 6, 2) := by decide +kernel
theorem d_M_meets_18 : decode b_M_meets 18 = .ok (.iaload, 1) := by decide +kernel
theorem d_M_meets_19 : decode b_M_meets 19 = .ok (.iload 4, 2) := by decide +kernel
theorem d_M_meets_21 : decode b_M_meets 21 = .ok (.if_icmp .ne 49, 3) := by decide +kernel
theorem d_M_meets_24 : decode b_M_meets 24 = .ok (.aload_n 0, 1) := by decide +kernel
theorem d_M_meets_25 : decode b_M_meets 25 = .ok (.getfield 22, 3) := by decide +kernel
theorem d_M_meets_28 : decode b_M_meets 28 = .ok (.iload 6, 2) := by decide +kernel
theorem d_M_meets_30 : decode b_M_meets 30 = .ok (.iconst 1, 1) := by decide +kernel
theorem d_M_meets_31 : decode b_M_meets 31 = .ok (.iadd, 1) := by decide +kernel
theorem d_M_meets_32 : decode b_M_meets 32 = .ok (.iaload, 1) := by decide +kernel
theorem d_M_meets_33 : decode b_M_meets 33 = .ok (.iload 5, 2) := by decide +kernel
theorem d_M_meets_35 : decode b_M_meets 35 = .ok (.aload_n 0, 1) := by decide +kernel
theorem d_M_meets_36 : decode b_M_meets 36 = .ok (.getfield 16, 3) := by decide +kernel
theorem d_M_meets_39 : decode b_M_meets 39 = .ok (.iload_n 2, 1) := by decide +kernel
theorem d_M_meets_40 : decode b_M_meets 40 = .ok (.iaload, 1) := by decide +kernel
theorem d_M_meets_41 : decode b_M_meets 41 = .ok (.iadd, 1) := by decide +kernel
theorem d_M_meets_42 : decode b_M_meets 42 = .ok (.if_icmp .ge 28, 3) := by decide +kernel
theorem d_M_meets_45 : decode b_M_meets 45 = .ok (.iload 5, 2) := by decide +kernel
theorem d_M_meets_47 : decode b_M_meets 47 = .ok (.aload_n 0, 1) := by decide +kernel
theorem d_M_meets_48 : decode b_M_meets 48 = .ok (.getfield 22, 3) := by decide +kernel
theorem d_M_meets_51 : decode b_M_meets 51 = .ok (.iload 6, 2) := by decide +kernel
theorem d_M_meets_53 : decode b_M_meets 53 = .ok (.iconst 1, 1) := by decide +kernel
theorem d_M_meets_54 : decode b_M_meets 54 = .ok (.iadd, 1) := by decide +kernel
theorem d_M_meets_55 : decode b_M_meets 55 = .ok (.iaload, 1) := by decide +kernel
theorem d_M_meets_56 : decode b_M_meets 56 = .ok (.aload_n 0, 1) := by decide +kernel
theorem d_M_meets_57 : decode b_M_meets 57 = .ok (.getfield 16, 3) := by decide +kernel
theorem d_M_meets_60 : decode b_M_meets 60 = .ok (.iload_n 3, 1) := by decide +kernel
theorem d_M_meets_61 : decode b_M_meets 61 = .ok (.iaload, 1) := by decide +kernel
theorem d_M_meets_62 : decode b_M_meets 62 = .ok (.iadd, 1) := by decide +kernel
theorem d_M_meets_63 : decode b_M_meets 63 = .ok (.if_icmp .ge 7, 3) := by decide +kernel
theorem d_M_meets_66 : decode b_M_meets 66 = .ok (.iconst 1, 1) := by decide +kernel
theorem d_M_meets_67 : decode b_M_meets 67 = .ok (.goto 4, 3) := by decide +kernel
theorem d_M_meets_70 : decode b_M_meets 70 = .ok (.iconst 0, 1) := by decide +kernel
theorem d_M_meets_71 : decode b_M_meets 71 = .ok (.ireturn, 1) := by decide +kernel
theorem d_M_fits_0 : decode b_M_fits 0 = .ok (.aload_n 0, 1) := by decide +kernel
theorem d_M_fits_1 : decode b_M_fits 1 = .ok (.iload_n 1, 1) := by decide +kernel
theorem d_M_fits_2 : decode b_M_fits 2 = .ok (.iload_n 2, 1) := by decide +kernel
theorem d_M_fits_3 : decode b_M_fits 3 = .ok (.iload_n 3, 1) := by decide +kernel
theorem d_M_fits_4 : decode b_M_fits 4 = .ok (.invokevirtual 52, 3) := by decide +kernel
theorem d_M_fits_7 : decode b_M_fits 7 = .ok (.istore 4, 2) := by decide +kernel
theorem d_M_fits_9 : decode b_M_fits 9 = .ok (.iconst 0, 1) := by decide +kernel
theorem d_M_fits_10 : decode b_M_fits 10 = .ok (.istore 5, 2) := by decide +kernel
theorem d_M_fits_12 : decode b_M_fits 12 = .ok (.iload 5, 2) := by decide +kernel
theorem d_M_fits_14 : decode b_M_fits 14 = .ok (.aload_n 0, 1) := by decide +kernel
theorem d_M_fits_15 : decode b_M_fits 15 = .ok (.getfield 42, 3) := by decide +kernel
theorem d_M_fits_18 : decode b_M_fits 18 = .ok (.if_icmp .ge 34, 3) := by decide +kernel
theorem d_M_fits_21 : decode b_M_fits 21 = .ok (.iload 4, 2) := by decide +kernel
theorem d_M_fits_23 : decode b_M_fits 23 = .ok (.ifCond .eq 20, 3) := by decide +kernel
theorem d_M_fits_26 : decode b_M_fits 26 = .ok (.aload_n 0, 1) := by decide +kernel
theorem d_M_fits_27 : decode b_M_fits 27 = .ok (.iconst 0, 1) := by decide +kernel
theorem d_M_fits_28 : decode b_M_fits 28 = .ok (.iload_n 1, 1) := by decide +kernel
theorem d_M_fits_29 : decode b_M_fits 29 = .ok (.iload 5, 2) := by decide +kernel
theorem d_M_fits_31 : decode b_M_fits 31 = .ok (.iload_n 2, 1) := by decide +kernel
theorem d_M_fits_32 : decode b_M_fits 32 = .ok (.iload_n 3, 1) := by decide +kernel
theorem d_M_fits_33 : decode b_M_fits 33 = .ok (.invokevirtual 55, 3) := by decide +kernel
theorem d_M_fits_36 : decode b_M_fits 36 = .ok (.ifCond .ne 7, 3) := by decide +kernel
theorem d_M_fits_39 : decode b_M_fits 39 = .ok (.iconst 1, 1) := by decide +kernel
theorem d_M_fits_40 : decode b_M_fits 40 = .ok (.goto 4, 3) := by decide +kernel
theorem d_M_fits_43 : decode b_M_fits 43 = .ok (.iconst 0, 1) := by decide +kernel
theorem d_M_fits_44 : decode b_M_fits 44 = .ok (.istore 4, 2) := by decide +kernel
theorem d_M_fits_46 : decode b_M_fits 46 = .ok (.iinc 5 1, 3) := by decide +kernel
theorem d_M_fits_49 : decode b_M_fits 49 = .ok (.goto (-37), 3) := by decide +kernel
theorem d_M_fits_52 : decode b_M_fits 52 = .ok (.iload 4, 2) := by decide +kernel
theorem d_M_fits_54 : decode b_M_fits 54 = .ok (.ireturn, 1) := by decide +kernel
theorem d_M_fitsTried_0 : decode b_M_fitsTried 0 = .ok (.aload_n 0, 1) := by decide +kernel
theorem d_M_fitsTried_1 : decode b_M_fitsTried 1 = .ok (.iload_n 1, 1) := by decide +kernel
theorem d_M_fitsTried_2 : decode b_M_fitsTried 2 = .ok (.iload_n 2, 1) := by decide +kernel
theorem d_M_fitsTried_3 : decode b_M_fitsTried 3 = .ok (.iload_n 3, 1) := by decide +kernel
theorem d_M_fitsTried_4 : decode b_M_fitsTried 4 = .ok (.invokevirtual 52, 3) := by decide +kernel
theorem d_M_fitsTried_7 : decode b_M_fitsTried 7 = .ok (.istore 4, 2) := by decide +kernel
theorem d_M_fitsTried_9 : decode b_M_fitsTried 9 = .ok (.iconst 0, 1) := by decide +kernel
theorem d_M_fitsTried_10 : decode b_M_fitsTried 10 = .ok (.istore 5, 2) := by decide +kernel
theorem d_M_fitsTried_12 : decode b_M_fitsTried 12 = .ok (.iload 5, 2) := by decide +kernel
theorem d_M_fitsTried_14 : decode b_M_fitsTried 14 = .ok (.aload_n 0, 1) := by decide +kernel
theorem d_M_fitsTried_15 : decode b_M_fitsTried 15 = .ok (.getfield 42, 3) := by decide +kernel
theorem d_M_fitsTried_18 : decode b_M_fitsTried 18 = .ok (.if_icmp .ge 45, 3) := by decide +kernel
theorem d_M_fitsTried_21 : decode b_M_fitsTried 21 = .ok (.iload 4, 2) := by decide +kernel
theorem d_M_fitsTried_23 : decode b_M_fitsTried 23 = .ok (.ifCond .eq 31, 3) := by decide +kernel
theorem d_M_fitsTried_26 : decode b_M_fitsTried 26 = .ok (.aload_n 0, 1) := by decide +kernel
theorem d_M_fitsTried_27 : decode b_M_fitsTried 27 = .ok (.getfield 34, 3) := by decide +kernel
theorem d_M_fitsTried_30 : decode b_M_fitsTried 30 = .ok (.iload 5, 2) := by decide +kernel
theorem d_M_fitsTried_32 : decode b_M_fitsTried 32 = .ok (.baload, 1) := by decide +kernel
theorem d_M_fitsTried_33 : decode b_M_fitsTried 33 = .ok (.ifCond .eq 17, 3) := by decide +kernel
theorem d_M_fitsTried_36 : decode b_M_fitsTried 36 = .ok (.aload_n 0, 1) := by decide +kernel
theorem d_M_fitsTried_37 : decode b_M_fitsTried 37 = .ok (.bipush 18, 2) := by decide +kernel
theorem d_M_fitsTried_39 : decode b_M_fitsTried 39 = .ok (.iload_n 1, 1) := by decide +kernel
theorem d_M_fitsTried_40 : decode b_M_fitsTried 40 = .ok (.iload 5, 2) := by decide +kernel
theorem d_M_fitsTried_42 : decode b_M_fitsTried 42 = .ok (.iload_n 2, 1) := by decide +kernel
theorem d_M_fitsTried_43 : decode b_M_fitsTried 43 = .ok (.iload_n 3, 1) := by decide +kernel
theorem d_M_fitsTried_44 : decode b_M_fitsTried 44 = .ok (.invokevirtual 55, 3) := by decide +kernel
theorem d_M_fitsTried_47 : decode b_M_fitsTried 47 = .ok (.ifCond .ne 7, 3) := by decide +kernel
theorem d_M_fitsTried_50 : decode b_M_fitsTried 50 = .ok (.iconst 1, 1) := by decide +kernel
theorem d_M_fitsTried_51 : decode b_M_fitsTried 51 = .ok (.goto 4, 3) := by decide +kernel
theorem d_M_fitsTried_54 : decode b_M_fitsTried 54 = .ok (.iconst 0, 1) := by decide +kernel
theorem d_M_fitsTried_55 : decode b_M_fitsTried 55 = .ok (.istore 4, 2) := by decide +kernel
theorem d_M_fitsTried_57 : decode b_M_fitsTried 57 = .ok (.iinc 5 1, 3) := by decide +kernel
theorem d_M_fitsTried_60 : decode b_M_fitsTried 60 = .ok (.goto (-48), 3) := by decide +kernel
theorem d_M_fitsTried_63 : decode b_M_fitsTried 63 = .ok (.iload 4, 2) := by decide +kernel
theorem d_M_fitsTried_65 : decode b_M_fitsTried 65 = .ok (.ireturn, 1) := by decide +kernel
theorem d_M_isFrozen_0 : decode b_M_isFrozen 0 = .ok (.aload_n 0, 1) := by decide +kernel
theorem d_M_isFrozen_1 : decode b_M_isFrozen 1 = .ok (.getfield 22, 3) := by decide +kernel
theorem d_M_isFrozen_4 : decode b_M_isFrozen 4 = .ok (.iconst 3, 1) := by decide +kernel
theorem d_M_isFrozen_5 : decode b_M_isFrozen 5 = .ok (.iload_n 1, 1) := by decide +kernel
theorem d_M_isFrozen_6 : decode b_M_isFrozen 6 = .ok (.imul, 1) := by decide +kernel
theorem d_M_isFrozen_7 : decode b_M_isFrozen 7 = .ok (.iconst 1, 1) := by decide +kernel
theorem d_M_isFrozen_8 : decode b_M_isFrozen 8 = .ok (.iadd, 1) := by decide +kernel
theorem d_M_isFrozen_9 : decode b_M_isFrozen 9 = .ok (.iaload, 1) := by decide +kernel
theorem d_M_isFrozen_10 : decode b_M_isFrozen 10 = .ok (.aload_n 0, 1) := by decide +kernel
theorem d_M_isFrozen_11 : decode b_M_isFrozen 11 = .ok (.getfield 59, 3) := by decide +kernel
theorem d_M_isFrozen_14 : decode b_M_isFrozen 14 = .ok (.aload_n 0, 1) := by decide +kernel
theorem d_M_isFrozen_15 : decode b_M_isFrozen 15 = .ok (.getfield 62, 3) := by decide +kernel
theorem d_M_isFrozen_18 : decode b_M_isFrozen 18 = .ok (.iadd, 1) := by decide +kernel
theorem d_M_isFrozen_19 : decode b_M_isFrozen 19 = .ok (.if_icmp .ge 7, 3) := by decide +kernel
theorem d_M_isFrozen_22 : decode b_M_isFrozen 22 = .ok (.iconst 1, 1) := by decide +kernel
theorem d_M_isFrozen_23 : decode b_M_isFrozen 23 = .ok (.goto 4, 3) := by decide +kernel
theorem d_M_isFrozen_26 : decode b_M_isFrozen 26 = .ok (.iconst 0, 1) := by decide +kernel
theorem d_M_isFrozen_27 : decode b_M_isFrozen 27 = .ok (.ireturn, 1) := by decide +kernel
theorem d_M_costOf_0 : decode b_M_costOf 0 = .ok (.aload_n 0, 1) := by decide +kernel
theorem d_M_costOf_1 : decode b_M_costOf 1 = .ok (.getfield 22, 3) := by decide +kernel
theorem d_M_costOf_4 : decode b_M_costOf 4 = .ok (.iload_n 1, 1) := by decide +kernel
theorem d_M_costOf_5 : decode b_M_costOf 5 = .ok (.iconst 3, 1) := by decide +kernel
theorem d_M_costOf_6 : decode b_M_costOf 6 = .ok (.iload_n 2, 1) := by decide +kernel
theorem d_M_costOf_7 : decode b_M_costOf 7 = .ok (.imul, 1) := by decide +kernel
theorem d_M_costOf_8 : decode b_M_costOf 8 = .ok (.iadd, 1) := by decide +kernel
theorem d_M_costOf_9 : decode b_M_costOf 9 = .ok (.iconst 1, 1) := by decide +kernel
theorem d_M_costOf_10 : decode b_M_costOf 10 = .ok (.iadd, 1) := by decide +kernel
theorem d_M_costOf_11 : decode b_M_costOf 11 = .ok (.iaload, 1) := by decide +kernel
theorem d_M_costOf_12 : decode b_M_costOf 12 = .ok (.aload_n 0, 1) := by decide +kernel
theorem d_M_costOf_13 : decode b_M_costOf 13 = .ok (.getfield 16, 3) := by decide +kernel
theorem d_M_costOf_16 : decode b_M_costOf 16 = .ok (.iload_n 2, 1) := by decide +kernel
theorem d_M_costOf_17 : decode b_M_costOf 17 = .ok (.iaload, 1) := by decide +kernel
theorem d_M_costOf_18 : decode b_M_costOf 18 = .ok (.iadd, 1) := by decide +kernel
theorem d_M_costOf_19 : decode b_M_costOf 19 = .ok (.aload_n 0, 1) := by decide +kernel
theorem d_M_costOf_20 : decode b_M_costOf 20 = .ok (.getfield 13, 3) := by decide +kernel
theorem d_M_costOf_23 : decode b_M_costOf 23 = .ok (.aload_n 0, 1) := by decide +kernel
theorem d_M_costOf_24 : decode b_M_costOf 24 = .ok (.getfield 22, 3) := by decide +kernel
theorem d_M_costOf_27 : decode b_M_costOf 27 = .ok (.iload_n 1, 1) := by decide +kernel
theorem d_M_costOf_28 : decode b_M_costOf 28 = .ok (.iconst 3, 1) := by decide +kernel
theorem d_M_costOf_29 : decode b_M_costOf 29 = .ok (.iload_n 2, 1) := by decide +kernel
theorem d_M_costOf_30 : decode b_M_costOf 30 = .ok (.imul, 1) := by decide +kernel
theorem d_M_costOf_31 : decode b_M_costOf 31 = .ok (.iadd, 1) := by decide +kernel
theorem d_M_costOf_32 : decode b_M_costOf 32 = .ok (.iconst 2, 1) := by decide +kernel
theorem d_M_costOf_33 : decode b_M_costOf 33 = .ok (.iadd, 1) := by decide +kernel
theorem d_M_costOf_34 : decode b_M_costOf 34 = .ok (.iaload, 1) := by decide +kernel
theorem d_M_costOf_35 : decode b_M_costOf 35 = .ok (.iaload, 1) := by decide +kernel
theorem d_M_costOf_36 : decode b_M_costOf 36 = .ok (.isub, 1) := by decide +kernel
theorem d_M_costOf_37 : decode b_M_costOf 37 = .ok (.istore_n 3, 1) := by decide +kernel
theorem d_M_costOf_38 : decode b_M_costOf 38 = .ok (.iload_n 3, 1) := by decide +kernel
theorem d_M_costOf_39 : decode b_M_costOf 39 = .ok (.ifCond .le 7, 3) := by decide +kernel
theorem d_M_costOf_42 : decode b_M_costOf 42 = .ok (.iload_n 3, 1) := by decide +kernel
theorem d_M_costOf_43 : decode b_M_costOf 43 = .ok (.goto 4, 3) := by decide +kernel
theorem d_M_costOf_46 : decode b_M_costOf 46 = .ok (.iconst 0, 1) := by decide +kernel
theorem d_M_costOf_47 : decode b_M_costOf 47 = .ok (.ireturn, 1) := by decide +kernel
theorem d_M_order_0 : decode b_M_order 0 = .ok (.aload_n 0, 1) := by decide +kernel
theorem d_M_order_1 : decode b_M_order 1 = .ok (.aload_n 0, 1) := by decide +kernel
theorem d_M_order_2 : decode b_M_order 2 = .ok (.getfield 65, 3) := by decide +kernel
theorem d_M_order_5 : decode b_M_order 5 = .ok (.bipush 8, 2) := by decide +kernel
theorem d_M_order_7 : decode b_M_order 7 = .ok (.if_icmp .ne 7, 3) := by decide +kernel
theorem d_M_order_10 : decode b_M_order 10 = .ok (.iconst 1, 1) := by decide +kernel
theorem d_M_order_11 : decode b_M_order 11 = .ok (.goto 4, 3) := by decide +kernel
theorem d_M_order_14 : decode b_M_order 14 = .ok (.iconst 0, 1) := by decide +kernel
theorem d_M_order_15 : decode b_M_order 15 = .ok (.iload_n 1, 1) := by decide +kernel
theorem d_M_order_16 : decode b_M_order 16 = .ok (.iconst 0, 1) := by decide +kernel
theorem d_M_order_17 : decode b_M_order 17 = .ok (.bipush 9, 2) := by decide +kernel
theorem d_M_order_19 : decode b_M_order 19 = .ok (.invokestatic 45, 3) := by decide +kernel
theorem d_M_order_22 : decode b_M_order 22 = .ok (.ifCond .eq 14, 3) := by decide +kernel
theorem d_M_order_25 : decode b_M_order 25 = .ok (.iload_n 2, 1) := by decide +kernel
theorem d_M_order_26 : decode b_M_order 26 = .ok (.iconst 0, 1) := by decide +kernel
theorem d_M_order_27 : decode b_M_order 27 = .ok (.sipush 200, 3) := by decide +kernel
theorem d_M_order_30 : decode b_M_order 30 = .ok (.invokestatic 45, 3) := by decide +kernel
theorem d_M_order_33 : decode b_M_order 33 = .ok (.ifCond .ne 7, 3) := by decide +kernel
theorem d_M_order_36 : decode b_M_order 36 = .ok (.iconst 1, 1) := by decide +kernel
theorem d_M_order_37 : decode b_M_order 37 = .ok (.goto 4, 3) := by decide +kernel
theorem d_M_order_40 : decode b_M_order 40 = .ok (.iconst 0, 1) := by decide +kernel
theorem d_M_order_41 : decode b_M_order 41 = .ok (.iconst 0, 1) := by decide +kernel
theorem d_M_order_42 : decode b_M_order 42 = .ok (.iconst 0, 1) := by decide +kernel
theorem d_M_order_43 : decode b_M_order 43 = .ok (.invokevirtual 68, 3) := by decide +kernel
theorem d_M_order_46 : decode b_M_order 46 = .ok (.ifCond .eq 5, 3) := by decide +kernel
theorem d_M_order_49 : decode b_M_order 49 = .ok (.iconst 0, 1) := by decide +kernel
theorem d_M_order_50 : decode b_M_order 50 = .ok (.ireturn, 1) := by decide +kernel
theorem d_M_order_51 : decode b_M_order 51 = .ok (.aload_n 0, 1) := by decide +kernel
theorem d_M_order_52 : decode b_M_order 52 = .ok (.getfield 7, 3) := by decide +kernel
theorem d_M_order_55 : decode b_M_order 55 = .ok (.aload_n 0, 1) := by decide +kernel
theorem d_M_order_56 : decode b_M_order 56 = .ok (.getfield 65, 3) := by decide +kernel
theorem d_M_order_59 : decode b_M_order 59 = .ok (.iload_n 1, 1) := by decide +kernel
theorem d_M_order_60 : decode b_M_order 60 = .ok (.iastore, 1) := by decide +kernel
theorem d_M_order_61 : decode b_M_order 61 = .ok (.aload_n 0, 1) := by decide +kernel
theorem d_M_order_62 : decode b_M_order 62 = .ok (.getfield 13, 3) := by decide +kernel
theorem d_M_order_65 : decode b_M_order 65 = .ok (.aload_n 0, 1) := by decide +kernel
theorem d_M_order_66 : decode b_M_order 66 = .ok (.getfield 65, 3) := by decide +kernel
theorem d_M_order_69 : decode b_M_order 69 = .ok (.iload_n 2, 1) := by decide +kernel
theorem d_M_order_70 : decode b_M_order 70 = .ok (.iastore, 1) := by decide +kernel
theorem d_M_order_71 : decode b_M_order 71 = .ok (.aload_n 0, 1) := by decide +kernel
theorem d_M_order_72 : decode b_M_order 72 = .ok (.dup, 1) := by decide +kernel
theorem d_M_order_73 : decode b_M_order 73 = .ok (.getfield 65, 3) := by decide +kernel
theorem d_M_order_76 : decode b_M_order 76 = .ok (.iconst 1, 1) := by decide +kernel
theorem d_M_order_77 : decode b_M_order 77 = .ok (.iadd, 1) := by decide +kernel
theorem d_M_order_78 : decode b_M_order 78 = .ok (.putfield 65, 3) := by decide +kernel
theorem d_M_order_81 : decode b_M_order 81 = .ok (.aload_n 0, 1) := by decide +kernel
theorem d_M_order_82 : decode b_M_order 82 = .ok (.getfield 65, 3) := by decide +kernel
theorem d_M_order_85 : decode b_M_order 85 = .ok (.iconst 1, 1) := by decide +kernel
theorem d_M_order_86 : decode b_M_order 86 = .ok (.isub, 1) := by decide +kernel
theorem d_M_order_87 : decode b_M_order 87 = .ok (.ireturn, 1) := by decide +kernel
theorem d_M_heat_0 : decode b_M_heat 0 = .ok (.iload_n 1, 1) := by decide +kernel
theorem d_M_heat_1 : decode b_M_heat 1 = .ok (.iconst 0, 1) := by decide +kernel
theorem d_M_heat_2 : decode b_M_heat 2 = .ok (.aload_n 0, 1) := by decide +kernel
theorem d_M_heat_3 : decode b_M_heat 3 = .ok (.getfield 65, 3) := by decide +kernel
theorem d_M_heat_6 : decode b_M_heat 6 = .ok (.iconst 1, 1) := by decide +kernel
theorem d_M_heat_7 : decode b_M_heat 7 = .ok (.isub, 1) := by decide +kernel
theorem d_M_heat_8 : decode b_M_heat 8 = .ok (.invokestatic 45, 3) := by decide +kernel
theorem d_M_heat_11 : decode b_M_heat 11 = .ok (.ifCond .eq 13, 3) := by decide +kernel
theorem d_M_heat_14 : decode b_M_heat 14 = .ok (.iload 4, 2) := by decide +kernel
theorem d_M_heat_16 : decode b_M_heat 16 = .ok (.iconst 0, 1) := by decide +kernel
theorem d_M_heat_17 : decode b_M_heat 17 = .ok (.iconst 2, 1) := by decide +kernel
theorem d_M_heat_18 : decode b_M_heat 18 = .ok (.invokestatic 45, 3) := by decide +kernel
theorem d_M_heat_21 : decode b_M_heat 21 = .ok (.ifCond .ne 7, 3) := by decide +kernel
theorem d_M_heat_24 : decode b_M_heat 24 = .ok (.iconst 1, 1) := by decide +kernel
theorem d_M_heat_25 : decode b_M_heat 25 = .ok (.goto 4, 3) := by decide +kernel
theorem d_M_heat_28 : decode b_M_heat 28 = .ok (.iconst 0, 1) := by decide +kernel
theorem d_M_heat_29 : decode b_M_heat 29 = .ok (.istore 6, 2) := by decide +kernel
theorem d_M_heat_31 : decode b_M_heat 31 = .ok (.iload_n 2, 1) := by decide +kernel
theorem d_M_heat_32 : decode b_M_heat 32 = .ok (.iconst 1, 1) := by decide +kernel
theorem d_M_heat_33 : decode b_M_heat 33 = .ok (.bipush 20, 2) := by decide +kernel
theorem d_M_heat_35 : decode b_M_heat 35 = .ok (.invokestatic 45, 3) := by decide +kernel
theorem d_M_heat_38 : decode b_M_heat 38 = .ok (.ifCond .eq 24, 3) := by decide +kernel
theorem d_M_heat_41 : decode b_M_heat 41 = .ok (.iload_n 3, 1) := by decide +kernel
theorem d_M_heat_42 : decode b_M_heat 42 = .ok (.iconst 1, 1) := by decide +kernel
theorem d_M_heat_43 : decode b_M_heat 43 = .ok (.bipush 7, 2) := by decide +kernel
theorem d_M_heat_45 : decode b_M_heat 45 = .ok (.invokestatic 45, 3) := by decide +kernel
theorem d_M_heat_48 : decode b_M_heat 48 = .ok (.ifCond .eq 14, 3) := by decide +kernel
theorem d_M_heat_51 : decode b_M_heat 51 = .ok (.iload 5, 2) := by decide +kernel
theorem d_M_heat_53 : decode b_M_heat 53 = .ok (.iconst 0, 1) := by decide +kernel
theorem d_M_heat_54 : decode b_M_heat 54 = .ok (.bipush 59, 2) := by decide +kernel
theorem d_M_heat_56 : decode b_M_heat 56 = .ok (.invokestatic 45, 3) := by decide +kernel
theorem d_M_heat_59 : decode b_M_heat 59 = .ok (.ifCond .ne 7, 3) := by decide +kernel
theorem d_M_heat_62 : decode b_M_heat 62 = .ok (.iconst 1, 1) := by decide +kernel
theorem d_M_heat_63 : decode b_M_heat 63 = .ok (.goto 4, 3) := by decide +kernel
theorem d_M_heat_66 : decode b_M_heat 66 = .ok (.iconst 0, 1) := by decide +kernel
theorem d_M_heat_67 : decode b_M_heat 67 = .ok (.istore 7, 2) := by decide +kernel
theorem d_M_heat_69 : decode b_M_heat 69 = .ok (.iconst 0, 1) := by decide +kernel
theorem d_M_heat_70 : decode b_M_heat 70 = .ok (.istore 8, 2) := by decide +kernel
theorem d_M_heat_72 : decode b_M_heat 72 = .ok (.iload 6, 2) := by decide +kernel
theorem d_M_heat_74 : decode b_M_heat 74 = .ok (.ifCond .ne 59, 3) := by decide +kernel
theorem d_M_heat_77 : decode b_M_heat 77 = .ok (.aload_n 0, 1) := by decide +kernel
theorem d_M_heat_78 : decode b_M_heat 78 = .ok (.getfield 42, 3) := by decide +kernel
theorem d_M_heat_81 : decode b_M_heat 81 = .ok (.bipush 6, 2) := by decide +kernel
theorem d_M_heat_83 : decode b_M_heat 83 = .ok (.if_icmp .ge 50, 3) := by decide +kernel
theorem d_M_heat_86 : decode b_M_heat 86 = .ok (.iload 7, 2) := by decide +kernel
theorem d_M_heat_88 : decode b_M_heat 88 = .ok (.ifCond .ne 45, 3) := by decide +kernel
theorem d_M_heat_91 : decode b_M_heat 91 = .ok (.aload_n 0, 1) := by decide +kernel
theorem d_M_heat_92 : decode b_M_heat 92 = .ok (.getfield 16, 3) := by decide +kernel
theorem d_M_heat_95 : decode b_M_heat 95 = .ok (.aload_n 0, 1) := by decide +kernel
theorem d_M_heat_96 : decode b_M_heat 96 = .ok (.getfield 42, 3) := by decide +kernel
theorem d_M_heat_99 : decode b_M_heat 99 = .ok (.iload_n 2, 1) := by decide +kernel
theorem d_M_heat_100 : decode b_M_heat 100 = .ok (.iastore, 1) := by decide +kernel
theorem d_M_heat_101 : decode b_M_heat 101 = .ok (.aload_n 0, 1) := by decide +kernel
theorem d_M_heat_102 : decode b_M_heat 102 = .ok (.getfield 19, 3) := by decide +kernel
theorem d_M_heat_105 : decode b_M_heat 105 = .ok (.aload_n 0, 1) := by decide +kernel
theorem d_M_heat_106 : decode b_M_heat 106 = .ok (.getfield 42, 3) := by decide +kernel
theorem d_M_heat_109 : decode b_M_heat 109 = .ok (.iload_n 3, 1) := by decide +kernel
theorem d_M_heat_110 : decode b_M_heat 110 = .ok (.iastore, 1) := by decide +kernel
theorem d_M_heat_111 : decode b_M_heat 111 = .ok (.aload_n 0, 1) := by decide +kernel
theorem d_M_heat_112 : decode b_M_heat 112 = .ok (.aload_n 0, 1) := by decide +kernel
theorem d_M_heat_113 : decode b_M_heat 113 = .ok (.getfield 42, 3) := by decide +kernel
theorem d_M_heat_116 : decode b_M_heat 116 = .ok (.iload 4, 2) := by decide +kernel
theorem d_M_heat_118 : decode b_M_heat 118 = .ok (.iload 5, 2) := by decide +kernel
theorem d_M_heat_120 : decode b_M_heat 120 = .ok (.invokevirtual 72, 3) := by decide +kernel
theorem d_M_heat_123 : decode b_M_heat 123 = .ok (.ifCond .ne 7, 3) := by decide +kernel
theorem d_M_heat_126 : decode b_M_heat 126 = .ok (.iconst 1, 1) := by decide +kernel
theorem d_M_heat_127 : decode b_M_heat 127 = .ok (.goto 4, 3) := by decide +kernel
theorem d_M_heat_130 : decode b_M_heat 130 = .ok (.iconst 0, 1) := by decide +kernel
theorem d_M_heat_131 : decode b_M_heat 131 = .ok (.istore 8, 2) := by decide +kernel
theorem d_M_heat_133 : decode b_M_heat 133 = .ok (.aload_n 0, 1) := by decide +kernel
theorem d_M_heat_134 : decode b_M_heat 134 = .ok (.iload 6, 2) := by decide +kernel
theorem d_M_heat_136 : decode b_M_heat 136 = .ok (.aload_n 0, 1) := by decide +kernel
theorem d_M_heat_137 : decode b_M_heat 137 = .ok (.getfield 42, 3) := by decide +kernel
theorem d_M_heat_140 : decode b_M_heat 140 = .ok (.bipush 6, 2) := by decide +kernel
theorem d_M_heat_142 : decode b_M_heat 142 = .ok (.if_icmp .ne 7, 3) := by decide +kernel
theorem d_M_heat_145 : decode b_M_heat 145 = .ok (.iconst 1, 1) := by decide +kernel
theorem d_M_heat_146 : decode b_M_heat 146 = .ok (.goto 4, 3) := by decide +kernel
theorem d_M_heat_149 : decode b_M_heat 149 = .ok (.iconst 0, 1) := by decide +kernel
theorem d_M_heat_150 : decode b_M_heat 150 = .ok (.iload 7, 2) := by decide +kernel
theorem d_M_heat_152 : decode b_M_heat 152 = .ok (.iload 8, 2) := by decide +kernel
theorem d_M_heat_154 : decode b_M_heat 154 = .ok (.invokevirtual 68, 3) := by decide +kernel
theorem d_M_heat_157 : decode b_M_heat 157 = .ok (.ifCond .eq 5, 3) := by decide +kernel
theorem d_M_heat_160 : decode b_M_heat 160 = .ok (.iconst 0, 1) := by decide +kernel
theorem d_M_heat_161 : decode b_M_heat 161 = .ok (.ireturn, 1) := by decide +kernel
theorem d_M_heat_162 : decode b_M_heat 162 = .ok (.aload_n 0, 1) := by decide +kernel
theorem d_M_heat_163 : decode b_M_heat 163 = .ok (.getfield 22, 3) := by decide +kernel
theorem d_M_heat_166 : decode b_M_heat 166 = .ok (.iconst 3, 1) := by decide +kernel
theorem d_M_heat_167 : decode b_M_heat 167 = .ok (.aload_n 0, 1) := by decide +kernel
theorem d_M_heat_168 : decode b_M_heat 168 = .ok (.getfield 42, 3) := by decide +kernel
theorem d_M_heat_171 : decode b_M_heat 171 = .ok (.imul, 1) := by decide +kernel
theorem d_M_heat_172 : decode b_M_heat 172 = .ok (.iload 4, 2) := by decide +kernel
theorem d_M_heat_174 : decode b_M_heat 174 = .ok (.iastore, 1) := by decide +kernel
theorem d_M_heat_175 : decode b_M_heat 175 = .ok (.aload_n 0, 1) := by decide +kernel
theorem d_M_heat_176 : decode b_M_heat 176 = .ok (.getfield 22, 3) := by decide +kernel
theorem d_M_heat_179 : decode b_M_heat 179 = .ok (.iconst 3, 1) := by decide +kernel
theorem d_M_heat_180 : decode b_M_heat 180 = .ok (.aload_n 0, 1) := by decide +kernel
theorem d_M_heat_181 : decode b_M_heat 181 = .ok (.getfield 42, 3) := by decide +kernel
theorem d_M_heat_184 : decode b_M_heat 184 = .ok (.imul, 1) := by decide +kernel
theorem d_M_heat_185 : decode b_M_heat 185 = .ok (.iconst 1, 1) := by decide +kernel
theorem d_M_heat_186 : decode b_M_heat 186 = .ok (.iadd, 1) := by decide +kernel
theorem d_M_heat_187 : decode b_M_heat 187 = .ok (.iload 5, 2) := by decide +kernel
theorem d_M_heat_189 : decode b_M_heat 189 = .ok (.iastore, 1) := by decide +kernel
theorem d_M_heat_190 : decode b_M_heat 190 = .ok (.aload_n 0, 1) := by decide +kernel
theorem d_M_heat_191 : decode b_M_heat 191 = .ok (.getfield 22, 3) := by decide +kernel
theorem d_M_heat_194 : decode b_M_heat 194 = .ok (.iconst 3, 1) := by decide +kernel
theorem d_M_heat_195 : decode b_M_heat 195 = .ok (.aload_n 0, 1) := by decide +kernel
theorem d_M_heat_196 : decode b_M_heat 196 = .ok (.getfield 42, 3) := by decide +kernel
theorem d_M_heat_199 : decode b_M_heat 199 = .ok (.imul, 1) := by decide +kernel
theorem d_M_heat_200 : decode b_M_heat 200 = .ok (.iconst 2, 1) := by decide +kernel
theorem d_M_heat_201 : decode b_M_heat 201 = .ok (.iadd, 1) := by decide +kernel
theorem d_M_heat_202 : decode b_M_heat 202 = .ok (.iload_n 1, 1) := by decide +kernel
theorem d_M_heat_203 : decode b_M_heat 203 = .ok (.iastore, 1) := by decide +kernel
theorem d_M_heat_204 : decode b_M_heat 204 = .ok (.aload_n 0, 1) := by decide +kernel
theorem d_M_heat_205 : decode b_M_heat 205 = .ok (.dup, 1) := by decide +kernel
theorem d_M_heat_206 : decode b_M_heat 206 = .ok (.getfield 42, 3) := by decide +kernel
theorem d_M_heat_209 : decode b_M_heat 209 = .ok (.iconst 1, 1) := by decide +kernel
theorem d_M_heat_210 : decode b_M_heat 210 = .ok (.iadd, 1) := by decide +kernel
theorem d_M_heat_211 : decode b_M_heat 211 = .ok (.putfield 42, 3) := by decide +kernel
theorem d_M_heat_214 : decode b_M_heat 214 = .ok (.aload_n 0, 1) := by decide +kernel
theorem d_M_heat_215 : decode b_M_heat 215 = .ok (.iconst 0, 1) := by decide +kernel
theorem d_M_heat_216 : decode b_M_heat 216 = .ok (.putfield 75, 3) := by decide +kernel
theorem d_M_heat_219 : decode b_M_heat 219 = .ok (.aload_n 0, 1) := by decide +kernel
theorem d_M_heat_220 : decode b_M_heat 220 = .ok (.iconst 0, 1) := by decide +kernel
theorem d_M_heat_221 : decode b_M_heat 221 = .ok (.putfield 79, 3) := by decide +kernel
theorem d_M_heat_224 : decode b_M_heat 224 = .ok (.aload_n 0, 1) := by decide +kernel
theorem d_M_heat_225 : decode b_M_heat 225 = .ok (.getfield 42, 3) := by decide +kernel
theorem d_M_heat_228 : decode b_M_heat 228 = .ok (.iconst 1, 1) := by decide +kernel
theorem d_M_heat_229 : decode b_M_heat 229 = .ok (.isub, 1) := by decide +kernel
theorem d_M_heat_230 : decode b_M_heat 230 = .ok (.ireturn, 1) := by decide +kernel
theorem d_M_stop_0 : decode b_M_stop 0 = .ok (.iload_n 2, 1) := by decide +kernel
theorem d_M_stop_1 : decode b_M_stop 1 = .ok (.iconst 0, 1) := by decide +kernel
theorem d_M_stop_2 : decode b_M_stop 2 = .ok (.bipush 60, 2) := by decide +kernel
theorem d_M_stop_4 : decode b_M_stop 4 = .ok (.invokestatic 45, 3) := by decide +kernel
theorem d_M_stop_7 : decode b_M_stop 7 = .ok (.ifCond .eq 18, 3) := by decide +kernel
theorem d_M_stop_10 : decode b_M_stop 10 = .ok (.iload_n 3, 1) := by decide +kernel
theorem d_M_stop_11 : decode b_M_stop 11 = .ok (.iconst 0, 1) := by decide +kernel
theorem d_M_stop_12 : decode b_M_stop 12 = .ok (.bipush 60, 2) := by decide +kernel
theorem d_M_stop_14 : decode b_M_stop 14 = .ok (.invokestatic 45, 3) := by decide +kernel
theorem d_M_stop_17 : decode b_M_stop 17 = .ok (.ifCond .eq 8, 3) := by decide +kernel
theorem d_M_stop_20 : decode b_M_stop 20 = .ok (.iload_n 3, 1) := by decide +kernel
theorem d_M_stop_21 : decode b_M_stop 21 = .ok (.iload_n 2, 1) := by decide +kernel
theorem d_M_stop_22 : decode b_M_stop 22 = .ok (.if_icmp .gt 7, 3) := by decide +kernel
theorem d_M_stop_25 : decode b_M_stop 25 = .ok (.iconst 1, 1) := by decide +kernel
theorem d_M_stop_26 : decode b_M_stop 26 = .ok (.goto 4, 3) := by decide +kernel
theorem d_M_stop_29 : decode b_M_stop 29 = .ok (.iconst 0, 1) := by decide +kernel
theorem d_M_stop_30 : decode b_M_stop 30 = .ok (.istore 4, 2) := by decide +kernel
theorem d_M_stop_32 : decode b_M_stop 32 = .ok (.aload_n 0, 1) := by decide +kernel
theorem d_M_stop_33 : decode b_M_stop 33 = .ok (.iload_n 1, 1) := by decide +kernel
theorem d_M_stop_34 : decode b_M_stop 34 = .ok (.iconst 0, 1) := by decide +kernel
theorem d_M_stop_35 : decode b_M_stop 35 = .ok (.iconst 2, 1) := by decide +kernel
theorem d_M_stop_36 : decode b_M_stop 36 = .ok (.invokestatic 45, 3) := by decide +kernel
theorem d_M_stop_39 : decode b_M_stop 39 = .ok (.ifCond .ne 7, 3) := by decide +kernel
theorem d_M_stop_42 : decode b_M_stop 42 = .ok (.iconst 1, 1) := by decide +kernel
theorem d_M_stop_43 : decode b_M_stop 43 = .ok (.goto 4, 3) := by decide +kernel
theorem d_M_stop_46 : decode b_M_stop 46 = .ok (.iconst 0, 1) := by decide +kernel
theorem d_M_stop_47 : decode b_M_stop 47 = .ok (.aload_n 0, 1) := by decide +kernel
theorem d_M_stop_48 : decode b_M_stop 48 = .ok (.getfield 49, 3) := by decide +kernel
theorem d_M_stop_51 : decode b_M_stop 51 = .ok (.bipush 10, 2) := by decide +kernel
theorem d_M_stop_53 : decode b_M_stop 53 = .ok (.if_icmp .ne 7, 3) := by decide +kernel
theorem d_M_stop_56 : decode b_M_stop 56 = .ok (.iconst 1, 1) := by decide +kernel
theorem d_M_stop_57 : decode b_M_stop 57 = .ok (.goto 4, 3) := by decide +kernel
theorem d_M_stop_60 : decode b_M_stop 60 = .ok (.iconst 0, 1) := by decide +kernel
theorem d_M_stop_61 : decode b_M_stop 61 = .ok (.iload 4, 2) := by decide +kernel
theorem d_M_stop_63 : decode b_M_stop 63 = .ok (.iconst 0, 1) := by decide +kernel
theorem d_M_stop_64 : decode b_M_stop 64 = .ok (.invokevirtual 68, 3) := by decide +kernel
theorem d_M_stop_67 : decode b_M_stop 67 = .ok (.ifCond .eq 5, 3) := by decide +kernel
theorem d_M_stop_70 : decode b_M_stop 70 = .ok (.iconst 0, 1) := by decide +kernel
theorem d_M_stop_71 : decode b_M_stop 71 = .ok (.ireturn, 1) := by decide +kernel
theorem d_M_stop_72 : decode b_M_stop 72 = .ok (.aload_n 0, 1) := by decide +kernel
theorem d_M_stop_73 : decode b_M_stop 73 = .ok (.getfield 25, 3) := by decide +kernel
theorem d_M_stop_76 : decode b_M_stop 76 = .ok (.aload_n 0, 1) := by decide +kernel
theorem d_M_stop_77 : decode b_M_stop 77 = .ok (.getfield 49, 3) := by decide +kernel
theorem d_M_stop_80 : decode b_M_stop 80 = .ok (.iload_n 1, 1) := by decide +kernel
theorem d_M_stop_81 : decode b_M_stop 81 = .ok (.iastore, 1) := by decide +kernel
theorem d_M_stop_82 : decode b_M_stop 82 = .ok (.aload_n 0, 1) := by decide +kernel
theorem d_M_stop_83 : decode b_M_stop 83 = .ok (.getfield 28, 3) := by decide +kernel
theorem d_M_stop_86 : decode b_M_stop 86 = .ok (.aload_n 0, 1) := by decide +kernel
theorem d_M_stop_87 : decode b_M_stop 87 = .ok (.getfield 49, 3) := by decide +kernel
theorem d_M_stop_90 : decode b_M_stop 90 = .ok (.iload_n 2, 1) := by decide +kernel
theorem d_M_stop_91 : decode b_M_stop 91 = .ok (.iastore, 1) := by decide +kernel
theorem d_M_stop_92 : decode b_M_stop 92 = .ok (.aload_n 0, 1) := by decide +kernel
theorem d_M_stop_93 : decode b_M_stop 93 = .ok (.getfield 31, 3) := by decide +kernel
theorem d_M_stop_96 : decode b_M_stop 96 = .ok (.aload_n 0, 1) := by decide +kernel
theorem d_M_stop_97 : decode b_M_stop 97 = .ok (.getfield 49, 3) := by decide +kernel
theorem d_M_stop_100 : decode b_M_stop 100 = .ok (.iload_n 3, 1) := by decide +kernel
theorem d_M_stop_101 : decode b_M_stop 101 = .ok (.iastore, 1) := by decide +kernel
theorem d_M_stop_102 : decode b_M_stop 102 = .ok (.aload_n 0, 1) := by decide +kernel
theorem d_M_stop_103 : decode b_M_stop 103 = .ok (.dup, 1) := by decide +kernel
theorem d_M_stop_104 : decode b_M_stop 104 = .ok (.getfield 49, 3) := by decide +kernel
theorem d_M_stop_107 : decode b_M_stop 107 = .ok (.iconst 1, 1) := by decide +kernel
theorem d_M_stop_108 : decode b_M_stop 108 = .ok (.iadd, 1) := by decide +kernel
theorem d_M_stop_109 : decode b_M_stop 109 = .ok (.putfield 49, 3) := by decide +kernel
theorem d_M_stop_112 : decode b_M_stop 112 = .ok (.aload_n 0, 1) := by decide +kernel
theorem d_M_stop_113 : decode b_M_stop 113 = .ok (.getfield 49, 3) := by decide +kernel
theorem d_M_stop_116 : decode b_M_stop 116 = .ok (.ireturn, 1) := by decide +kernel
theorem d_M_go_0 : decode b_M_go 0 = .ok (.aload_n 0, 1) := by decide +kernel
theorem d_M_go_1 : decode b_M_go 1 = .ok (.iconst 0, 1) := by decide +kernel
theorem d_M_go_2 : decode b_M_go 2 = .ok (.putfield 38, 3) := by decide +kernel
theorem d_M_go_5 : decode b_M_go 5 = .ok (.aload_n 0, 1) := by decide +kernel
theorem d_M_go_6 : decode b_M_go 6 = .ok (.iconst 0, 1) := by decide +kernel
theorem d_M_go_7 : decode b_M_go 7 = .ok (.putfield 49, 3) := by decide +kernel
theorem d_M_go_10 : decode b_M_go 10 = .ok (.return_, 1) := by decide +kernel
theorem d_M_clock_0 : decode b_M_clock 0 = .ok (.aload_n 0, 1) := by decide +kernel
theorem d_M_clock_1 : decode b_M_clock 1 = .ok (.iload_n 1, 1) := by decide +kernel
theorem d_M_clock_2 : decode b_M_clock 2 = .ok (.iconst 0, 1) := by decide +kernel
theorem d_M_clock_3 : decode b_M_clock 3 = .ok (.bipush 60, 2) := by decide +kernel
theorem d_M_clock_5 : decode b_M_clock 5 = .ok (.invokestatic 45, 3) := by decide +kernel
theorem d_M_clock_8 : decode b_M_clock 8 = .ok (.ifCond .eq 13, 3) := by decide +kernel
theorem d_M_clock_11 : decode b_M_clock 11 = .ok (.iload_n 2, 1) := by decide +kernel
theorem d_M_clock_12 : decode b_M_clock 12 = .ok (.iconst 0, 1) := by decide +kernel
theorem d_M_clock_13 : decode b_M_clock 13 = .ok (.bipush 60, 2) := by decide +kernel
theorem d_M_clock_15 : decode b_M_clock 15 = .ok (.invokestatic 45, 3) := by decide +kernel
theorem d_M_clock_18 : decode b_M_clock 18 = .ok (.ifCond .ne 7, 3) := by decide +kernel
theorem d_M_clock_21 : decode b_M_clock 21 = .ok (.iconst 1, 1) := by decide +kernel
theorem d_M_clock_22 : decode b_M_clock 22 = .ok (.goto 4, 3) := by decide +kernel
theorem d_M_clock_25 : decode b_M_clock 25 = .ok (.iconst 0, 1) := by decide +kernel
theorem d_M_clock_26 : decode b_M_clock 26 = .ok (.iconst 0, 1) := by decide +kernel
theorem d_M_clock_27 : decode b_M_clock 27 = .ok (.iconst 0, 1) := by decide +kernel
theorem d_M_clock_28 : decode b_M_clock 28 = .ok (.iconst 0, 1) := by decide +kernel
theorem d_M_clock_29 : decode b_M_clock 29 = .ok (.invokevirtual 68, 3) := by decide +kernel
theorem d_M_clock_32 : decode b_M_clock 32 = .ok (.ifCond .eq 4, 3) := by decide +kernel
theorem d_M_clock_35 : decode b_M_clock 35 = .ok (.return_, 1) := by decide +kernel
theorem d_M_clock_36 : decode b_M_clock 36 = .ok (.aload_n 0, 1) := by decide +kernel
theorem d_M_clock_37 : decode b_M_clock 37 = .ok (.iload_n 1, 1) := by decide +kernel
theorem d_M_clock_38 : decode b_M_clock 38 = .ok (.putfield 59, 3) := by decide +kernel
theorem d_M_clock_41 : decode b_M_clock 41 = .ok (.aload_n 0, 1) := by decide +kernel
theorem d_M_clock_42 : decode b_M_clock 42 = .ok (.iload_n 2, 1) := by decide +kernel
theorem d_M_clock_43 : decode b_M_clock 43 = .ok (.putfield 62, 3) := by decide +kernel
theorem d_M_clock_46 : decode b_M_clock 46 = .ok (.return_, 1) := by decide +kernel
theorem d_M_keepForUndo_0 : decode b_M_keepForUndo 0 = .ok (.aload_n 0, 1) := by decide +kernel
theorem d_M_keepForUndo_1 : decode b_M_keepForUndo 1 = .ok (.iconst 0, 1) := by decide +kernel
theorem d_M_keepForUndo_2 : decode b_M_keepForUndo 2 = .ok (.bipush 54, 2) := by decide +kernel
theorem d_M_keepForUndo_4 : decode b_M_keepForUndo 4 = .ok (.invokevirtual 82, 3) := by decide +kernel
theorem d_M_keepForUndo_7 : decode b_M_keepForUndo 7 = .ok (.aload_n 0, 1) := by decide +kernel
theorem d_M_keepForUndo_8 : decode b_M_keepForUndo 8 = .ok (.iconst 1, 1) := by decide +kernel
theorem d_M_keepForUndo_9 : decode b_M_keepForUndo 9 = .ok (.putfield 75, 3) := by decide +kernel
theorem d_M_keepForUndo_12 : decode b_M_keepForUndo 12 = .ok (.return_, 1) := by decide +kernel
theorem d_M_place_0 : decode b_M_place 0 = .ok (.aload_n 0, 1) := by decide +kernel
theorem d_M_place_1 : decode b_M_place 1 = .ok (.iload_n 1, 1) := by decide +kernel
theorem d_M_place_2 : decode b_M_place 2 = .ok (.invokevirtual 86, 3) := by decide +kernel
theorem d_M_place_5 : decode b_M_place 5 = .ok (.ifCond .eq 12, 3) := by decide +kernel
theorem d_M_place_8 : decode b_M_place 8 = .ok (.iload_n 2, 1) := by decide +kernel
theorem d_M_place_9 : decode b_M_place 9 = .ok (.iconst 0, 1) := by decide +kernel
theorem d_M_place_10 : decode b_M_place 10 = .ok (.iconst 2, 1) := by decide +kernel
theorem d_M_place_11 : decode b_M_place 11 = .ok (.invokestatic 45, 3) := by decide +kernel
theorem d_M_place_14 : decode b_M_place 14 = .ok (.ifCond .ne 7, 3) := by decide +kernel
theorem d_M_place_17 : decode b_M_place 17 = .ok (.iconst 1, 1) := by decide +kernel
theorem d_M_place_18 : decode b_M_place 18 = .ok (.goto 4, 3) := by decide +kernel
theorem d_M_place_21 : decode b_M_place 21 = .ok (.iconst 0, 1) := by decide +kernel
theorem d_M_place_22 : decode b_M_place 22 = .ok (.istore 4, 2) := by decide +kernel
theorem d_M_place_24 : decode b_M_place 24 = .ok (.iload_n 3, 1) := by decide +kernel
theorem d_M_place_25 : decode b_M_place 25 = .ok (.iconst 0, 1) := by decide +kernel
theorem d_M_place_26 : decode b_M_place 26 = .ok (.bipush 59, 2) := by decide +kernel
theorem d_M_place_28 : decode b_M_place 28 = .ok (.invokestatic 45, 3) := by decide +kernel
theorem d_M_place_31 : decode b_M_place 31 = .ok (.ifCond .ne 7, 3) := by decide +kernel
theorem d_M_place_34 : decode b_M_place 34 = .ok (.iconst 1, 1) := by decide +kernel
theorem d_M_place_35 : decode b_M_place 35 = .ok (.goto 4, 3) := by decide +kernel
theorem d_M_place_38 : decode b_M_place 38 = .ok (.iconst 0, 1) := by decide +kernel
theorem d_M_place_39 : decode b_M_place 39 = .ok (.istore 5, 2) := by decide +kernel
theorem d_M_place_41 : decode b_M_place 41 = .ok (.aload_n 0, 1) := by decide +kernel
theorem d_M_place_42 : decode b_M_place 42 = .ok (.iload 4, 2) := by decide +kernel
theorem d_M_place_44 : decode b_M_place 44 = .ok (.iload 4, 2) := by decide +kernel
theorem d_M_place_46 : decode b_M_place 46 = .ok (.ifCond .ne 15, 3) := by decide +kernel
theorem d_M_place_49 : decode b_M_place 49 = .ok (.aload_n 0, 1) := by decide +kernel
theorem d_M_place_50 : decode b_M_place 50 = .ok (.iload_n 1, 1) := by decide +kernel
theorem d_M_place_51 : decode b_M_place 51 = .ok (.invokevirtual 90, 3) := by decide +kernel
theorem d_M_place_54 : decode b_M_place 54 = .ok (.ifCond .eq 7, 3) := by decide +kernel
theorem d_M_place_57 : decode b_M_place 57 = .ok (.iconst 1, 1) := by decide +kernel
theorem d_M_place_58 : decode b_M_place 58 = .ok (.goto 4, 3) := by decide +kernel
theorem d_M_place_61 : decode b_M_place 61 = .ok (.iconst 0, 1) := by decide +kernel
theorem d_M_place_62 : decode b_M_place 62 = .ok (.iload 5, 2) := by decide +kernel
theorem d_M_place_64 : decode b_M_place 64 = .ok (.iload 4, 2) := by decide +kernel
theorem d_M_place_66 : decode b_M_place 66 = .ok (.ifCond .ne 22, 3) := by decide +kernel
theorem d_M_place_69 : decode b_M_place 69 = .ok (.iload 5, 2) := by decide +kernel
theorem d_M_place_71 : decode b_M_place 71 = .ok (.ifCond .ne 17, 3) := by decide +kernel
theorem d_M_place_74 : decode b_M_place 74 = .ok (.aload_n 0, 1) := by decide +kernel
theorem d_M_place_75 : decode b_M_place 75 = .ok (.iload_n 1, 1) := by decide +kernel
theorem d_M_place_76 : decode b_M_place 76 = .ok (.iload_n 2, 1) := by decide +kernel
theorem d_M_place_77 : decode b_M_place 77 = .ok (.iload_n 3, 1) := by decide +kernel
theorem d_M_place_78 : decode b_M_place 78 = .ok (.invokevirtual 72, 3) := by decide +kernel
theorem d_M_place_81 : decode b_M_place 81 = .ok (.ifCond .ne 7, 3) := by decide +kernel
theorem d_M_place_84 : decode b_M_place 84 = .ok (.iconst 1, 1) := by decide +kernel
theorem d_M_place_85 : decode b_M_place 85 = .ok (.goto 4, 3) := by decide +kernel
theorem d_M_place_88 : decode b_M_place 88 = .ok (.iconst 0, 1) := by decide +kernel
theorem d_M_place_89 : decode b_M_place 89 = .ok (.invokevirtual 68, 3) := by decide +kernel
theorem d_M_place_92 : decode b_M_place 92 = .ok (.ifCond .eq 4, 3) := by decide +kernel
theorem d_M_place_95 : decode b_M_place 95 = .ok (.return_, 1) := by decide +kernel
theorem d_M_place_96 : decode b_M_place 96 = .ok (.aload_n 0, 1) := by decide +kernel
theorem d_M_place_97 : decode b_M_place 97 = .ok (.invokevirtual 93, 3) := by decide +kernel
theorem d_M_place_100 : decode b_M_place 100 = .ok (.aload_n 0, 1) := by decide +kernel
theorem d_M_place_101 : decode b_M_place 101 = .ok (.getfield 22, 3) := by decide +kernel
theorem d_M_place_104 : decode b_M_place 104 = .ok (.iconst 3, 1) := by decide +kernel
theorem d_M_place_105 : decode b_M_place 105 = .ok (.iload_n 1, 1) := by decide +kernel
theorem d_M_place_106 : decode b_M_place 106 = .ok (.imul, 1) := by decide +kernel
theorem d_M_place_107 : decode b_M_place 107 = .ok (.iload_n 2, 1) := by decide +kernel
theorem d_M_place_108 : decode b_M_place 108 = .ok (.iastore, 1) := by decide +kernel
theorem d_M_place_109 : decode b_M_place 109 = .ok (.aload_n 0, 1) := by decide +kernel
theorem d_M_place_110 : decode b_M_place 110 = .ok (.getfield 22, 3) := by decide +kernel
theorem d_M_place_113 : decode b_M_place 113 = .ok (.iconst 3, 1) := by decide +kernel
theorem d_M_place_114 : decode b_M_place 114 = .ok (.iload_n 1, 1) := by decide +kernel
theorem d_M_place_115 : decode b_M_place 115 = .ok (.imul, 1) := by decide +kernel
theorem d_M_place_116 : decode b_M_place 116 = .ok (.iconst 1, 1) := by decide +kernel
theorem d_M_place_117 : decode b_M_place 117 = .ok (.iadd, 1) := by decide +kernel
theorem d_M_place_118 : decode b_M_place 118 = .ok (.iload_n 3, 1) := by decide +kernel
theorem d_M_place_119 : decode b_M_place 119 = .ok (.iastore, 1) := by decide +kernel
theorem d_M_place_120 : decode b_M_place 120 = .ok (.return_, 1) := by decide +kernel
theorem d_M_divert_0 : decode b_M_divert 0 = .ok (.aload_n 0, 1) := by decide +kernel
theorem d_M_divert_1 : decode b_M_divert 1 = .ok (.iload_n 1, 1) := by decide +kernel
theorem d_M_divert_2 : decode b_M_divert 2 = .ok (.invokevirtual 86, 3) := by decide +kernel
theorem d_M_divert_5 : decode b_M_divert 5 = .ok (.ifCond .eq 17, 3) := by decide +kernel
theorem d_M_divert_8 : decode b_M_divert 8 = .ok (.iload_n 2, 1) := by decide +kernel
theorem d_M_divert_9 : decode b_M_divert 9 = .ok (.iconst 0, 1) := by decide +kernel
theorem d_M_divert_10 : decode b_M_divert 10 = .ok (.aload_n 0, 1) := by decide +kernel
theorem d_M_divert_11 : decode b_M_divert 11 = .ok (.getfield 65, 3) := by decide +kernel
theorem d_M_divert_14 : decode b_M_divert 14 = .ok (.iconst 1, 1) := by decide +kernel
theorem d_M_divert_15 : decode b_M_divert 15 = .ok (.isub, 1) := by decide +kernel
theorem d_M_divert_16 : decode b_M_divert 16 = .ok (.invokestatic 45, 3) := by decide +kernel
theorem d_M_divert_19 : decode b_M_divert 19 = .ok (.ifCond .ne 7, 3) := by decide +kernel
theorem d_M_divert_22 : decode b_M_divert 22 = .ok (.iconst 1, 1) := by decide +kernel
theorem d_M_divert_23 : decode b_M_divert 23 = .ok (.goto 4, 3) := by decide +kernel
theorem d_M_divert_26 : decode b_M_divert 26 = .ok (.iconst 0, 1) := by decide +kernel
theorem d_M_divert_27 : decode b_M_divert 27 = .ok (.istore_n 3, 1) := by decide +kernel
theorem d_M_divert_28 : decode b_M_divert 28 = .ok (.iload_n 3, 1) := by decide +kernel
theorem d_M_divert_29 : decode b_M_divert 29 = .ok (.ifCond .ne 45, 3) := by decide +kernel
theorem d_M_divert_32 : decode b_M_divert 32 = .ok (.aload_n 0, 1) := by decide +kernel
theorem d_M_divert_33 : decode b_M_divert 33 = .ok (.getfield 22, 3) := by decide +kernel
theorem d_M_divert_36 : decode b_M_divert 36 = .ok (.iconst 3, 1) := by decide +kernel
theorem d_M_divert_37 : decode b_M_divert 37 = .ok (.iload_n 1, 1) := by decide +kernel
theorem d_M_divert_38 : decode b_M_divert 38 = .ok (.imul, 1) := by decide +kernel
theorem d_M_divert_39 : decode b_M_divert 39 = .ok (.iconst 2, 1) := by decide +kernel
theorem d_M_divert_40 : decode b_M_divert 40 = .ok (.iadd, 1) := by decide +kernel
theorem d_M_divert_41 : decode b_M_divert 41 = .ok (.iaload, 1) := by decide +kernel
theorem d_M_divert_42 : decode b_M_divert 42 = .ok (.iload_n 2, 1) := by decide +kernel
theorem d_M_divert_43 : decode b_M_divert 43 = .ok (.if_icmp .eq 27, 3) := by decide +kernel
theorem d_M_divert_46 : decode b_M_divert 46 = .ok (.aload_n 0, 1) := by decide +kernel
theorem d_M_divert_47 : decode b_M_divert 47 = .ok (.getfield 7, 3) := by decide +kernel
theorem d_M_divert_50 : decode b_M_divert 50 = .ok (.aload_n 0, 1) := by decide +kernel
theorem d_M_divert_51 : decode b_M_divert 51 = .ok (.getfield 22, 3) := by decide +kernel
theorem d_M_divert_54 : decode b_M_divert 54 = .ok (.iconst 3, 1) := by decide +kernel
theorem d_M_divert_55 : decode b_M_divert 55 = .ok (.iload_n 1, 1) := by decide +kernel
theorem d_M_divert_56 : decode b_M_divert 56 = .ok (.imul, 1) := by decide +kernel
theorem d_M_divert_57 : decode b_M_divert 57 = .ok (.iconst 2, 1) := by decide +kernel
theorem d_M_divert_58 : decode b_M_divert 58 = .ok (.iadd, 1) := by decide +kernel
theorem d_M_divert_59 : decode b_M_divert 59 = .ok (.iaload, 1) := by decide +kernel
theorem d_M_divert_60 : decode b_M_divert 60 = .ok (.iaload, 1) := by decide +kernel
theorem d_M_divert_61 : decode b_M_divert 61 = .ok (.aload_n 0, 1) := by decide +kernel
theorem d_M_divert_62 : decode b_M_divert 62 = .ok (.getfield 7, 3) := by decide +kernel
theorem d_M_divert_65 : decode b_M_divert 65 = .ok (.iload_n 2, 1) := by decide +kernel
theorem d_M_divert_66 : decode b_M_divert 66 = .ok (.iaload, 1) := by decide +kernel
theorem d_M_divert_67 : decode b_M_divert 67 = .ok (.if_icmp .eq 7, 3) := by decide +kernel
theorem d_M_divert_70 : decode b_M_divert 70 = .ok (.iconst 1, 1) := by decide +kernel
theorem d_M_divert_71 : decode b_M_divert 71 = .ok (.goto 4, 3) := by decide +kernel
theorem d_M_divert_74 : decode b_M_divert 74 = .ok (.iconst 0, 1) := by decide +kernel
theorem d_M_divert_75 : decode b_M_divert 75 = .ok (.istore 4, 2) := by decide +kernel
theorem d_M_divert_77 : decode b_M_divert 77 = .ok (.aload_n 0, 1) := by decide +kernel
theorem d_M_divert_78 : decode b_M_divert 78 = .ok (.iload_n 3, 1) := by decide +kernel
theorem d_M_divert_79 : decode b_M_divert 79 = .ok (.iload 4, 2) := by decide +kernel
theorem d_M_divert_81 : decode b_M_divert 81 = .ok (.iconst 0, 1) := by decide +kernel
theorem d_M_divert_82 : decode b_M_divert 82 = .ok (.iconst 0, 1) := by decide +kernel
theorem d_M_divert_83 : decode b_M_divert 83 = .ok (.invokevirtual 68, 3) := by decide +kernel
theorem d_M_divert_86 : decode b_M_divert 86 = .ok (.ifCond .eq 4, 3) := by decide +kernel
theorem d_M_divert_89 : decode b_M_divert 89 = .ok (.return_, 1) := by decide +kernel
theorem d_M_divert_90 : decode b_M_divert 90 = .ok (.aload_n 0, 1) := by decide +kernel
theorem d_M_divert_91 : decode b_M_divert 91 = .ok (.invokevirtual 93, 3) := by decide +kernel
theorem d_M_divert_94 : decode b_M_divert 94 = .ok (.aload_n 0, 1) := by decide +kernel
theorem d_M_divert_95 : decode b_M_divert 95 = .ok (.getfield 22, 3) := by decide +kernel
theorem d_M_divert_98 : decode b_M_divert 98 = .ok (.iconst 3, 1) := by decide +kernel
theorem d_M_divert_99 : decode b_M_divert 99 = .ok (.iload_n 1, 1) := by decide +kernel
theorem d_M_divert_100 : decode b_M_divert 100 = .ok (.imul, 1) := by decide +kernel
theorem d_M_divert_101 : decode b_M_divert 101 = .ok (.iconst 2, 1) := by decide +kernel
theorem d_M_divert_102 : decode b_M_divert 102 = .ok (.iadd, 1) := by decide +kernel
theorem d_M_divert_103 : decode b_M_divert 103 = .ok (.iload_n 2, 1) := by decide +kernel
theorem d_M_divert_104 : decode b_M_divert 104 = .ok (.iastore, 1) := by decide +kernel
theorem d_M_divert_105 : decode b_M_divert 105 = .ok (.return_, 1) := by decide +kernel
theorem d_M_costPlaced_0 : decode b_M_costPlaced 0 = .ok (.iconst 0, 1) := by decide +kernel
theorem d_M_costPlaced_1 : decode b_M_costPlaced 1 = .ok (.istore_n 1, 1) := by decide +kernel
theorem d_M_costPlaced_2 : decode b_M_costPlaced 2 = .ok (.iconst 0, 1) := by decide +kernel
theorem d_M_costPlaced_3 : decode b_M_costPlaced 3 = .ok (.istore_n 2, 1) := by decide +kernel
theorem d_M_costPlaced_4 : decode b_M_costPlaced 4 = .ok (.iload_n 2, 1) := by decide +kernel
theorem d_M_costPlaced_5 : decode b_M_costPlaced 5 = .ok (.aload_n 0, 1) := by decide +kernel
theorem d_M_costPlaced_6 : decode b_M_costPlaced 6 = .ok (.getfield 42, 3) := by decide +kernel
theorem d_M_costPlaced_9 : decode b_M_costPlaced 9 = .ok (.if_icmp .ge 32, 3) := by decide +kernel
theorem d_M_costPlaced_12 : decode b_M_costPlaced 12 = .ok (.iload_n 1, 1) := by decide +kernel
theorem d_M_costPlaced_13 : decode b_M_costPlaced 13 = .ok (.aload_n 0, 1) := by decide +kernel
theorem d_M_costPlaced_14 : decode b_M_costPlaced 14 = .ok (.getfield 34, 3) := by decide +kernel
theorem d_M_costPlaced_17 : decode b_M_costPlaced 17 = .ok (.iload_n 2, 1) := by decide +kernel
theorem d_M_costPlaced_18 : decode b_M_costPlaced 18 = .ok (.baload, 1) := by decide +kernel
theorem d_M_costPlaced_19 : decode b_M_costPlaced 19 = .ok (.ifCond .eq 13, 3) := by decide +kernel
theorem d_M_costPlaced_22 : decode b_M_costPlaced 22 = .ok (.aload_n 0, 1) := by decide +kernel
theorem d_M_costPlaced_23 : decode b_M_costPlaced 23 = .ok (.bipush 18, 2) := by decide +kernel
theorem d_M_costPlaced_25 : decode b_M_costPlaced 25 = .ok (.iload_n 2, 1) := by decide +kernel
theorem d_M_costPlaced_26 : decode b_M_costPlaced 26 = .ok (.invokevirtual 96, 3) := by decide +kernel
theorem d_M_costPlaced_29 : decode b_M_costPlaced 29 = .ok (.goto 4, 3) := by decide +kernel
theorem d_M_costPlaced_32 : decode b_M_costPlaced 32 = .ok (.iconst 0, 1) := by decide +kernel
theorem d_M_costPlaced_33 : decode b_M_costPlaced 33 = .ok (.iadd, 1) := by decide +kernel
theorem d_M_costPlaced_34 : decode b_M_costPlaced 34 = .ok (.istore_n 1, 1) := by decide +kernel
theorem d_M_costPlaced_35 : decode b_M_costPlaced 35 = .ok (.iinc 2 1, 3) := by decide +kernel
theorem d_M_costPlaced_38 : decode b_M_costPlaced 38 = .ok (.goto (-34), 3) := by decide +kernel
theorem d_M_costPlaced_41 : decode b_M_costPlaced 41 = .ok (.iload_n 1, 1) := by decide +kernel
theorem d_M_costPlaced_42 : decode b_M_costPlaced 42 = .ok (.ireturn, 1) := by decide +kernel
theorem d_M_after_0 : decode b_M_after 0 = .ok (.iload_n 1, 1) := by decide +kernel
theorem d_M_after_1 : decode b_M_after 1 = .ok (.iconst 1, 1) := by decide +kernel
theorem d_M_after_2 : decode b_M_after 2 = .ok (.iadd, 1) := by decide +kernel
theorem d_M_after_3 : decode b_M_after 3 = .ok (.istore_n 2, 1) := by decide +kernel
theorem d_M_after_4 : decode b_M_after 4 = .ok (.iload_n 2, 1) := by decide +kernel
theorem d_M_after_5 : decode b_M_after 5 = .ok (.bipush 6, 2) := by decide +kernel
theorem d_M_after_7 : decode b_M_after 7 = .ok (.if_icmp .ge 17, 3) := by decide +kernel
theorem d_M_after_10 : decode b_M_after 10 = .ok (.iload_n 0, 1) := by decide +kernel
theorem d_M_after_11 : decode b_M_after 11 = .ok (.iload_n 2, 1) := by decide +kernel
theorem d_M_after_12 : decode b_M_after 12 = .ok (.ishr, 1) := by decide +kernel
theorem d_M_after_13 : decode b_M_after 13 = .ok (.iconst 1, 1) := by decide +kernel
theorem d_M_after_14 : decode b_M_after 14 = .ok (.iand, 1) := by decide +kernel
theorem d_M_after_15 : decode b_M_after 15 = .ok (.ifCond .ne 9, 3) := by decide +kernel
theorem d_M_after_18 : decode b_M_after 18 = .ok (.iinc 2 1, 3) := by decide +kernel
theorem d_M_after_21 : decode b_M_after 21 = .ok (.goto (-17), 3) := by decide +kernel
theorem d_M_after_24 : decode b_M_after 24 = .ok (.iload_n 2, 1) := by decide +kernel
theorem d_M_after_25 : decode b_M_after 25 = .ok (.bipush 6, 2) := by decide +kernel
theorem d_M_after_27 : decode b_M_after 27 = .ok (.if_icmp .ge 7, 3) := by decide +kernel
theorem d_M_after_30 : decode b_M_after 30 = .ok (.iload_n 2, 1) := by decide +kernel
theorem d_M_after_31 : decode b_M_after 31 = .ok (.goto 4, 3) := by decide +kernel
theorem d_M_after_34 : decode b_M_after 34 = .ok (.iconst (-1), 1) := by decide +kernel
theorem d_M_after_35 : decode b_M_after 35 = .ok (.ireturn, 1) := by decide +kernel
theorem d_M_ahead_0 : decode b_M_ahead 0 = .ok (.iload_n 1, 1) := by decide +kernel
theorem d_M_ahead_1 : decode b_M_ahead 1 = .ok (.iconst 1, 1) := by decide +kernel
theorem d_M_ahead_2 : decode b_M_ahead 2 = .ok (.isub, 1) := by decide +kernel
theorem d_M_ahead_3 : decode b_M_ahead 3 = .ok (.istore_n 2, 1) := by decide +kernel
theorem d_M_ahead_4 : decode b_M_ahead 4 = .ok (.iload_n 2, 1) := by decide +kernel
theorem d_M_ahead_5 : decode b_M_ahead 5 = .ok (.ifCond .lt 17, 3) := by decide +kernel
theorem d_M_ahead_8 : decode b_M_ahead 8 = .ok (.iload_n 0, 1) := by decide +kernel
theorem d_M_ahead_9 : decode b_M_ahead 9 = .ok (.iload_n 2, 1) := by decide +kernel
theorem d_M_ahead_10 : decode b_M_ahead 10 = .ok (.ishr, 1) := by decide +kernel
theorem d_M_ahead_11 : decode b_M_ahead 11 = .ok (.iconst 1, 1) := by decide +kernel
theorem d_M_ahead_12 : decode b_M_ahead 12 = .ok (.iand, 1) := by decide +kernel
theorem d_M_ahead_13 : decode b_M_ahead 13 = .ok (.ifCond .ne 9, 3) := by decide +kernel
theorem d_M_ahead_16 : decode b_M_ahead 16 = .ok (.iinc 2 (-1), 3) := by decide +kernel
theorem d_M_ahead_19 : decode b_M_ahead 19 = .ok (.goto (-15), 3) := by decide +kernel
theorem d_M_ahead_22 : decode b_M_ahead 22 = .ok (.iload_n 2, 1) := by decide +kernel
theorem d_M_ahead_23 : decode b_M_ahead 23 = .ok (.ireturn, 1) := by decide +kernel
theorem d_M_isOld_0 : decode b_M_isOld 0 = .ok (.iload_n 2, 1) := by decide +kernel
theorem d_M_isOld_1 : decode b_M_isOld 1 = .ok (.bipush 60, 2) := by decide +kernel
theorem d_M_isOld_3 : decode b_M_isOld 3 = .ok (.aload_n 0, 1) := by decide +kernel
theorem d_M_isOld_4 : decode b_M_isOld 4 = .ok (.getfield 22, 3) := by decide +kernel
theorem d_M_isOld_7 : decode b_M_isOld 7 = .ok (.iconst 3, 1) := by decide +kernel
theorem d_M_isOld_8 : decode b_M_isOld 8 = .ok (.iload_n 1, 1) := by decide +kernel
theorem d_M_isOld_9 : decode b_M_isOld 9 = .ok (.imul, 1) := by decide +kernel
theorem d_M_isOld_10 : decode b_M_isOld 10 = .ok (.iaload, 1) := by decide +kernel
theorem d_M_isOld_11 : decode b_M_isOld 11 = .ok (.imul, 1) := by decide +kernel
theorem d_M_isOld_12 : decode b_M_isOld 12 = .ok (.aload_n 0, 1) := by decide +kernel
theorem d_M_isOld_13 : decode b_M_isOld 13 = .ok (.getfield 22, 3) := by decide +kernel
theorem d_M_isOld_16 : decode b_M_isOld 16 = .ok (.iconst 3, 1) := by decide +kernel
theorem d_M_isOld_17 : decode b_M_isOld 17 = .ok (.iload_n 1, 1) := by decide +kernel
theorem d_M_isOld_18 : decode b_M_isOld 18 = .ok (.imul, 1) := by decide +kernel
theorem d_M_isOld_19 : decode b_M_isOld 19 = .ok (.iconst 1, 1) := by decide +kernel
theorem d_M_isOld_20 : decode b_M_isOld 20 = .ok (.iadd, 1) := by decide +kernel
theorem d_M_isOld_21 : decode b_M_isOld 21 = .ok (.iaload, 1) := by decide +kernel
theorem d_M_isOld_22 : decode b_M_isOld 22 = .ok (.iadd, 1) := by decide +kernel
theorem d_M_isOld_23 : decode b_M_isOld 23 = .ok (.if_icmp .ne 7, 3) := by decide +kernel
theorem d_M_isOld_26 : decode b_M_isOld 26 = .ok (.iconst 1, 1) := by decide +kernel
theorem d_M_isOld_27 : decode b_M_isOld 27 = .ok (.goto 4, 3) := by decide +kernel
theorem d_M_isOld_30 : decode b_M_isOld 30 = .ok (.iconst 0, 1) := by decide +kernel
theorem d_M_isOld_31 : decode b_M_isOld 31 = .ok (.ireturn, 1) := by decide +kernel
theorem d_M_found_0 : decode b_M_found 0 = .ok (.aload_n 0, 1) := by decide +kernel
theorem d_M_found_1 : decode b_M_found 1 = .ok (.aload_n 0, 1) := by decide +kernel
theorem d_M_found_2 : decode b_M_found 2 = .ok (.invokevirtual 100, 3) := by decide +kernel
theorem d_M_found_5 : decode b_M_found 5 = .ok (.putfield 104, 3) := by decide +kernel
theorem d_M_found_8 : decode b_M_found 8 = .ok (.aload_n 0, 1) := by decide +kernel
theorem d_M_found_9 : decode b_M_found 9 = .ok (.bipush 18, 2) := by decide +kernel
theorem d_M_found_11 : decode b_M_found 11 = .ok (.bipush 36, 2) := by decide +kernel
theorem d_M_found_13 : decode b_M_found 13 = .ok (.invokevirtual 82, 3) := by decide +kernel
theorem d_M_found_16 : decode b_M_found 16 = .ok (.aload_n 0, 1) := by decide +kernel
theorem d_M_found_17 : decode b_M_found 17 = .ok (.iload_n 1, 1) := by decide +kernel
theorem d_M_found_18 : decode b_M_found 18 = .ok (.putfield 107, 3) := by decide +kernel
theorem d_M_found_21 : decode b_M_found 21 = .ok (.return_, 1) := by decide +kernel
theorem d_M_tries_0 : decode b_M_tries 0 = .ok (.aload_n 0, 1) := by decide +kernel
theorem d_M_tries_1 : decode b_M_tries 1 = .ok (.iconst 0, 1) := by decide +kernel
theorem d_M_tries_2 : decode b_M_tries 2 = .ok (.bipush 18, 2) := by decide +kernel
theorem d_M_tries_4 : decode b_M_tries 4 = .ok (.invokevirtual 82, 3) := by decide +kernel
theorem d_M_tries_7 : decode b_M_tries 7 = .ok (.iconst 1, 1) := by decide +kernel
theorem d_M_tries_8 : decode b_M_tries 8 = .ok (.istore_n 3, 1) := by decide +kernel
theorem d_M_tries_9 : decode b_M_tries 9 = .ok (.iconst 0, 1) := by decide +kernel
theorem d_M_tries_10 : decode b_M_tries 10 = .ok (.istore 4, 2) := by decide +kernel
theorem d_M_tries_12 : decode b_M_tries 12 = .ok (.iload 4, 2) := by decide +kernel
theorem d_M_tries_14 : decode b_M_tries 14 = .ok (.aload_n 0, 1) := by decide +kernel
theorem d_M_tries_15 : decode b_M_tries 15 = .ok (.getfield 42, 3) := by decide +kernel
theorem d_M_tries_18 : decode b_M_tries 18 = .ok (.if_icmp .ge 30, 3) := by decide +kernel
theorem d_M_tries_21 : decode b_M_tries 21 = .ok (.aload_n 0, 1) := by decide +kernel
theorem d_M_tries_22 : decode b_M_tries 22 = .ok (.getfield 34, 3) := by decide +kernel
theorem d_M_tries_25 : decode b_M_tries 25 = .ok (.iload 4, 2) := by decide +kernel
theorem d_M_tries_27 : decode b_M_tries 27 = .ok (.iload_n 1, 1) := by decide +kernel
theorem d_M_tries_28 : decode b_M_tries 28 = .ok (.iload 4, 2) := by decide +kernel
theorem d_M_tries_30 : decode b_M_tries 30 = .ok (.ishr, 1) := by decide +kernel
theorem d_M_tries_31 : decode b_M_tries 31 = .ok (.iconst 1, 1) := by decide +kernel
theorem d_M_tries_32 : decode b_M_tries 32 = .ok (.iand, 1) := by decide +kernel
theorem d_M_tries_33 : decode b_M_tries 33 = .ok (.ifCond .ne 7, 3) := by decide +kernel
theorem d_M_tries_36 : decode b_M_tries 36 = .ok (.iconst 1, 1) := by decide +kernel
theorem d_M_tries_37 : decode b_M_tries 37 = .ok (.goto 4, 3) := by decide +kernel
theorem d_M_tries_40 : decode b_M_tries 40 = .ok (.iconst 0, 1) := by decide +kernel
theorem d_M_tries_41 : decode b_M_tries 41 = .ok (.bastore, 1) := by decide +kernel
theorem d_M_tries_42 : decode b_M_tries 42 = .ok (.iinc 4 1, 3) := by decide +kernel
theorem d_M_tries_45 : decode b_M_tries 45 = .ok (.goto (-33), 3) := by decide +kernel
theorem d_M_tries_48 : decode b_M_tries 48 = .ok (.iconst 0, 1) := by decide +kernel
theorem d_M_tries_49 : decode b_M_tries 49 = .ok (.istore 4, 2) := by decide +kernel
theorem d_M_tries_51 : decode b_M_tries 51 = .ok (.iload 4, 2) := by decide +kernel
theorem d_M_tries_53 : decode b_M_tries 53 = .ok (.aload_n 0, 1) := by decide +kernel
theorem d_M_tries_54 : decode b_M_tries 54 = .ok (.getfield 42, 3) := by decide +kernel
theorem d_M_tries_57 : decode b_M_tries 57 = .ok (.if_icmp .ge 58, 3) := by decide +kernel
theorem d_M_tries_60 : decode b_M_tries 60 = .ok (.iload_n 3, 1) := by decide +kernel
theorem d_M_tries_61 : decode b_M_tries 61 = .ok (.ifCond .eq 46, 3) := by decide +kernel
theorem d_M_tries_64 : decode b_M_tries 64 = .ok (.aload_n 0, 1) := by decide +kernel
theorem d_M_tries_65 : decode b_M_tries 65 = .ok (.getfield 34, 3) := by decide +kernel
theorem d_M_tries_68 : decode b_M_tries 68 = .ok (.iload 4, 2) := by decide +kernel
theorem d_M_tries_70 : decode b_M_tries 70 = .ok (.baload, 1) := by decide +kernel
theorem d_M_tries_71 : decode b_M_tries 71 = .ok (.ifCond .eq 32, 3) := by decide +kernel
theorem d_M_tries_74 : decode b_M_tries 74 = .ok (.aload_n 0, 1) := by decide +kernel
theorem d_M_tries_75 : decode b_M_tries 75 = .ok (.iload 4, 2) := by decide +kernel
theorem d_M_tries_77 : decode b_M_tries 77 = .ok (.aload_n 0, 1) := by decide +kernel
theorem d_M_tries_78 : decode b_M_tries 78 = .ok (.getfield 22, 3) := by decide +kernel
theorem d_M_tries_81 : decode b_M_tries 81 = .ok (.iconst 3, 1) := by decide +kernel
theorem d_M_tries_82 : decode b_M_tries 82 = .ok (.iload 4, 2) := by decide +kernel
theorem d_M_tries_84 : decode b_M_tries 84 = .ok (.imul, 1) := by decide +kernel
theorem d_M_tries_85 : decode b_M_tries 85 = .ok (.iaload, 1) := by decide +kernel
theorem d_M_tries_86 : decode b_M_tries 86 = .ok (.aload_n 0, 1) := by decide +kernel
theorem d_M_tries_87 : decode b_M_tries 87 = .ok (.getfield 22, 3) := by decide +kernel
theorem d_M_tries_90 : decode b_M_tries 90 = .ok (.iconst 3, 1) := by decide +kernel
theorem d_M_tries_91 : decode b_M_tries 91 = .ok (.iload 4, 2) := by decide +kernel
theorem d_M_tries_93 : decode b_M_tries 93 = .ok (.imul, 1) := by decide +kernel
theorem d_M_tries_94 : decode b_M_tries 94 = .ok (.iconst 1, 1) := by decide +kernel
theorem d_M_tries_95 : decode b_M_tries 95 = .ok (.iadd, 1) := by decide +kernel
theorem d_M_tries_96 : decode b_M_tries 96 = .ok (.iaload, 1) := by decide +kernel
theorem d_M_tries_97 : decode b_M_tries 97 = .ok (.invokevirtual 110, 3) := by decide +kernel
theorem d_M_tries_100 : decode b_M_tries 100 = .ok (.ifCond .eq 7, 3) := by decide +kernel
theorem d_M_tries_103 : decode b_M_tries 103 = .ok (.iconst 1, 1) := by decide +kernel
theorem d_M_tries_104 : decode b_M_tries 104 = .ok (.goto 4, 3) := by decide +kernel
theorem d_M_tries_107 : decode b_M_tries 107 = .ok (.iconst 0, 1) := by decide +kernel
theorem d_M_tries_108 : decode b_M_tries 108 = .ok (.istore_n 3, 1) := by decide +kernel
theorem d_M_tries_109 : decode b_M_tries 109 = .ok (.iinc 4 1, 3) := by decide +kernel
theorem d_M_tries_112 : decode b_M_tries 112 = .ok (.goto (-61), 3) := by decide +kernel
theorem d_M_tries_115 : decode b_M_tries 115 = .ok (.iload_n 3, 1) := by decide +kernel
theorem d_M_tries_116 : decode b_M_tries 116 = .ok (.ifCond .eq 21, 3) := by decide +kernel
theorem d_M_tries_119 : decode b_M_tries 119 = .ok (.aload_n 0, 1) := by decide +kernel
theorem d_M_tries_120 : decode b_M_tries 120 = .ok (.getfield 104, 3) := by decide +kernel
theorem d_M_tries_123 : decode b_M_tries 123 = .ok (.ifCond .lt 16, 3) := by decide +kernel
theorem d_M_tries_126 : decode b_M_tries 126 = .ok (.aload_n 0, 1) := by decide +kernel
theorem d_M_tries_127 : decode b_M_tries 127 = .ok (.invokevirtual 100, 3) := by decide +kernel
theorem d_M_tries_130 : decode b_M_tries 130 = .ok (.aload_n 0, 1) := by decide +kernel
theorem d_M_tries_131 : decode b_M_tries 131 = .ok (.getfield 104, 3) := by decide +kernel
theorem d_M_tries_134 : decode b_M_tries 134 = .ok (.if_icmp .lt 5, 3) := by decide +kernel
theorem d_M_tries_137 : decode b_M_tries 137 = .ok (.iconst 1, 1) := by decide +kernel
theorem d_M_tries_138 : decode b_M_tries 138 = .ok (.ireturn, 1) := by decide +kernel
theorem d_M_tries_139 : decode b_M_tries 139 = .ok (.iload_n 1, 1) := by decide +kernel
theorem d_M_tries_140 : decode b_M_tries 140 = .ok (.iconst (-1), 1) := by decide +kernel
theorem d_M_tries_141 : decode b_M_tries 141 = .ok (.invokestatic 113, 3) := by decide +kernel
theorem d_M_tries_144 : decode b_M_tries 144 = .ok (.istore 4, 2) := by decide +kernel
theorem d_M_tries_146 : decode b_M_tries 146 = .ok (.iload 4, 2) := by decide +kernel
theorem d_M_tries_148 : decode b_M_tries 148 = .ok (.ifCond .ge 10, 3) := by decide +kernel
theorem d_M_tries_151 : decode b_M_tries 151 = .ok (.aload_n 0, 1) := by decide +kernel
theorem d_M_tries_152 : decode b_M_tries 152 = .ok (.iload_n 1, 1) := by decide +kernel
theorem d_M_tries_153 : decode b_M_tries 153 = .ok (.invokevirtual 116, 3) := by decide +kernel
theorem d_M_tries_156 : decode b_M_tries 156 = .ok (.iconst 1, 1) := by decide +kernel
theorem d_M_tries_157 : decode b_M_tries 157 = .ok (.ireturn, 1) := by decide +kernel
theorem d_M_tries_158 : decode b_M_tries 158 = .ok (.aload_n 0, 1) := by decide +kernel
theorem d_M_tries_159 : decode b_M_tries 159 = .ok (.getfield 22, 3) := by decide +kernel
theorem d_M_tries_162 : decode b_M_tries 162 = .ok (.bipush 18, 2) := by decide +kernel
theorem d_M_tries_164 : decode b_M_tries 164 = .ok (.iconst 3, 1) := by decide +kernel
theorem d_M_tries_165 : decode b_M_tries 165 = .ok (.iload 4, 2) := by decide +kernel
theorem d_M_tries_167 : decode b_M_tries 167 = .ok (.imul, 1) := by decide +kernel
theorem d_M_tries_168 : decode b_M_tries 168 = .ok (.iadd, 1) := by decide +kernel
theorem d_M_tries_169 : decode b_M_tries 169 = .ok (.iconst 0, 1) := by decide +kernel
theorem d_M_tries_170 : decode b_M_tries 170 = .ok (.iastore, 1) := by decide +kernel
theorem d_M_tries_171 : decode b_M_tries 171 = .ok (.aload_n 0, 1) := by decide +kernel
theorem d_M_tries_172 : decode b_M_tries 172 = .ok (.getfield 22, 3) := by decide +kernel
theorem d_M_tries_175 : decode b_M_tries 175 = .ok (.bipush 18, 2) := by decide +kernel
theorem d_M_tries_177 : decode b_M_tries 177 = .ok (.iconst 3, 1) := by decide +kernel
theorem d_M_tries_178 : decode b_M_tries 178 = .ok (.iload 4, 2) := by decide +kernel
theorem d_M_tries_180 : decode b_M_tries 180 = .ok (.imul, 1) := by decide +kernel
theorem d_M_tries_181 : decode b_M_tries 181 = .ok (.iadd, 1) := by decide +kernel
theorem d_M_tries_182 : decode b_M_tries 182 = .ok (.iconst 1, 1) := by decide +kernel
theorem d_M_tries_183 : decode b_M_tries 183 = .ok (.iadd, 1) := by decide +kernel
theorem d_M_tries_184 : decode b_M_tries 184 = .ok (.iconst (-1), 1) := by decide +kernel
theorem d_M_tries_185 : decode b_M_tries 185 = .ok (.iastore, 1) := by decide +kernel
theorem d_M_tries_186 : decode b_M_tries 186 = .ok (.iload 4, 2) := by decide +kernel
theorem d_M_tries_188 : decode b_M_tries 188 = .ok (.ifCond .lt 265, 3) := by decide +kernel
theorem d_M_tries_191 : decode b_M_tries 191 = .ok (.bipush 60, 2) := by decide +kernel
theorem d_M_tries_193 : decode b_M_tries 193 = .ok (.aload_n 0, 1) := by decide +kernel
theorem d_M_tries_194 : decode b_M_tries 194 = .ok (.getfield 22, 3) := by decide +kernel
theorem d_M_tries_197 : decode b_M_tries 197 = .ok (.bipush 18, 2) := by decide +kernel
theorem d_M_tries_199 : decode b_M_tries 199 = .ok (.iconst 3, 1) := by decide +kernel
theorem d_M_tries_200 : decode b_M_tries 200 = .ok (.iload 4, 2) := by decide +kernel
theorem d_M_tries_202 : decode b_M_tries 202 = .ok (.imul, 1) := by decide +kernel
theorem d_M_tries_203 : decode b_M_tries 203 = .ok (.iadd, 1) := by decide +kernel
theorem d_M_tries_204 : decode b_M_tries 204 = .ok (.iaload, 1) := by decide +kernel
theorem d_M_tries_205 : decode b_M_tries 205 = .ok (.imul, 1) := by decide +kernel
theorem d_M_tries_206 : decode b_M_tries 206 = .ok (.aload_n 0, 1) := by decide +kernel
theorem d_M_tries_207 : decode b_M_tries 207 = .ok (.getfield 22, 3) := by decide +kernel
theorem d_M_tries_210 : decode b_M_tries 210 = .ok (.bipush 18, 2) := by decide +kernel
theorem d_M_tries_212 : decode b_M_tries 212 = .ok (.iconst 3, 1) := by decide +kernel
theorem d_M_tries_213 : decode b_M_tries 213 = .ok (.iload 4, 2) := by decide +kernel
theorem d_M_tries_215 : decode b_M_tries 215 = .ok (.imul, 1) := by decide +kernel
theorem d_M_tries_216 : decode b_M_tries 216 = .ok (.iadd, 1) := by decide +kernel
theorem d_M_tries_217 : decode b_M_tries 217 = .ok (.iconst 1, 1) := by decide +kernel
theorem d_M_tries_218 : decode b_M_tries 218 = .ok (.iadd, 1) := by decide +kernel
theorem d_M_tries_219 : decode b_M_tries 219 = .ok (.iaload, 1) := by decide +kernel
theorem d_M_tries_220 : decode b_M_tries 220 = .ok (.iadd, 1) := by decide +kernel
theorem d_M_tries_221 : decode b_M_tries 221 = .ok (.iconst 1, 1) := by decide +kernel
theorem d_M_tries_222 : decode b_M_tries 222 = .ok (.iadd, 1) := by decide +kernel
theorem d_M_tries_223 : decode b_M_tries 223 = .ok (.istore 5, 2) := by decide +kernel
theorem d_M_tries_225 : decode b_M_tries 225 = .ok (.aload_n 0, 1) := by decide +kernel
theorem d_M_tries_226 : decode b_M_tries 226 = .ok (.getfield 34, 3) := by decide +kernel
theorem d_M_tries_229 : decode b_M_tries 229 = .ok (.iload 4, 2) := by decide +kernel
theorem d_M_tries_231 : decode b_M_tries 231 = .ok (.iconst 0, 1) := by decide +kernel
theorem d_M_tries_232 : decode b_M_tries 232 = .ok (.bastore, 1) := by decide +kernel
theorem d_M_tries_233 : decode b_M_tries 233 = .ok (.iload 5, 2) := by decide +kernel
theorem d_M_tries_235 : decode b_M_tries 235 = .ok (.sipush 180, 3) := by decide +kernel
theorem d_M_tries_238 : decode b_M_tries 238 = .ok (.if_icmp .ge 39, 3) := by decide +kernel
theorem d_M_tries_241 : decode b_M_tries 241 = .ok (.aload_n 0, 1) := by decide +kernel
theorem d_M_tries_242 : decode b_M_tries 242 = .ok (.iload 4, 2) := by decide +kernel
theorem d_M_tries_244 : decode b_M_tries 244 = .ok (.iload 5, 2) := by decide +kernel
theorem d_M_tries_246 : decode b_M_tries 246 = .ok (.invokevirtual 120, 3) := by decide +kernel
theorem d_M_tries_249 : decode b_M_tries 249 = .ok (.ifCond .ne 22, 3) := by decide +kernel
theorem d_M_tries_252 : decode b_M_tries 252 = .ok (.aload_n 0, 1) := by decide +kernel
theorem d_M_tries_253 : decode b_M_tries 253 = .ok (.iload 4, 2) := by decide +kernel
theorem d_M_tries_255 : decode b_M_tries 255 = .ok (.iload 5, 2) := by decide +kernel
theorem d_M_tries_257 : decode b_M_tries 257 = .ok (.bipush 60, 2) := by decide +kernel
theorem d_M_tries_259 : decode b_M_tries 259 = .ok (.idiv, 1) := by decide +kernel
theorem d_M_tries_260 : decode b_M_tries 260 = .ok (.iload 5, 2) := by decide +kernel
theorem d_M_tries_262 : decode b_M_tries 262 = .ok (.bipush 60, 2) := by decide +kernel
theorem d_M_tries_264 : decode b_M_tries 264 = .ok (.irem, 1) := by decide +kernel
theorem d_M_tries_265 : decode b_M_tries 265 = .ok (.invokevirtual 110, 3) := by decide +kernel
theorem d_M_tries_268 : decode b_M_tries 268 = .ok (.ifCond .ne 9, 3) := by decide +kernel
theorem d_M_tries_271 : decode b_M_tries 271 = .ok (.iinc 5 1, 3) := by decide +kernel
theorem d_M_tries_274 : decode b_M_tries 274 = .ok (.goto (-41), 3) := by decide +kernel
theorem d_M_tries_277 : decode b_M_tries 277 = .ok (.iload 5, 2) := by decide +kernel
theorem d_M_tries_279 : decode b_M_tries 279 = .ok (.sipush 180, 3) := by decide +kernel
theorem d_M_tries_282 : decode b_M_tries 282 = .ok (.if_icmp .ne 14, 3) := by decide +kernel
theorem d_M_tries_285 : decode b_M_tries 285 = .ok (.iload_n 1, 1) := by decide +kernel
theorem d_M_tries_286 : decode b_M_tries 286 = .ok (.iload 4, 2) := by decide +kernel
theorem d_M_tries_288 : decode b_M_tries 288 = .ok (.invokestatic 124, 3) := by decide +kernel
theorem d_M_tries_291 : decode b_M_tries 291 = .ok (.istore 4, 2) := by decide +kernel
theorem d_M_tries_293 : decode b_M_tries 293 = .ok (.goto 157, 3) := by decide +kernel
theorem d_M_tries_296 : decode b_M_tries 296 = .ok (.aload_n 0, 1) := by decide +kernel
theorem d_M_tries_297 : decode b_M_tries 297 = .ok (.getfield 127, 3) := by decide +kernel
theorem d_M_tries_300 : decode b_M_tries 300 = .ok (.iload_n 2, 1) := by decide +kernel
theorem d_M_tries_301 : decode b_M_tries 301 = .ok (.if_icmp .ne 5, 3) := by decide +kernel
theorem d_M_tries_304 : decode b_M_tries 304 = .ok (.iconst 0, 1) := by decide +kernel
theorem d_M_tries_305 : decode b_M_tries 305 = .ok (.ireturn, 1) := by decide +kernel
theorem d_M_tries_306 : decode b_M_tries 306 = .ok (.aload_n 0, 1) := by decide +kernel
theorem d_M_tries_307 : decode b_M_tries 307 = .ok (.dup, 1) := by decide +kernel
theorem d_M_tries_308 : decode b_M_tries 308 = .ok (.getfield 127, 3) := by decide +kernel
theorem d_M_tries_311 : decode b_M_tries 311 = .ok (.iconst 1, 1) := by decide +kernel
theorem d_M_tries_312 : decode b_M_tries 312 = .ok (.iadd, 1) := by decide +kernel
theorem d_M_tries_313 : decode b_M_tries 313 = .ok (.putfield 127, 3) := by decide +kernel
theorem d_M_tries_316 : decode b_M_tries 316 = .ok (.aload_n 0, 1) := by decide +kernel
theorem d_M_tries_317 : decode b_M_tries 317 = .ok (.getfield 22, 3) := by decide +kernel
theorem d_M_tries_320 : decode b_M_tries 320 = .ok (.bipush 18, 2) := by decide +kernel
theorem d_M_tries_322 : decode b_M_tries 322 = .ok (.iconst 3, 1) := by decide +kernel
theorem d_M_tries_323 : decode b_M_tries 323 = .ok (.iload 4, 2) := by decide +kernel
theorem d_M_tries_325 : decode b_M_tries 325 = .ok (.imul, 1) := by decide +kernel
theorem d_M_tries_326 : decode b_M_tries 326 = .ok (.iadd, 1) := by decide +kernel
theorem d_M_tries_327 : decode b_M_tries 327 = .ok (.iload 5, 2) := by decide +kernel
theorem d_M_tries_329 : decode b_M_tries 329 = .ok (.bipush 60, 2) := by decide +kernel
theorem d_M_tries_331 : decode b_M_tries 331 = .ok (.idiv, 1) := by decide +kernel
theorem d_M_tries_332 : decode b_M_tries 332 = .ok (.iastore, 1) := by decide +kernel
theorem d_M_tries_333 : decode b_M_tries 333 = .ok (.aload_n 0, 1) := by decide +kernel
theorem d_M_tries_334 : decode b_M_tries 334 = .ok (.getfield 22, 3) := by decide +kernel
theorem d_M_tries_337 : decode b_M_tries 337 = .ok (.bipush 18, 2) := by decide +kernel
theorem d_M_tries_339 : decode b_M_tries 339 = .ok (.iconst 3, 1) := by decide +kernel
theorem d_M_tries_340 : decode b_M_tries 340 = .ok (.iload 4, 2) := by decide +kernel
theorem d_M_tries_342 : decode b_M_tries 342 = .ok (.imul, 1) := by decide +kernel
theorem d_M_tries_343 : decode b_M_tries 343 = .ok (.iadd, 1) := by decide +kernel
theorem d_M_tries_344 : decode b_M_tries 344 = .ok (.iconst 1, 1) := by decide +kernel
theorem d_M_tries_345 : decode b_M_tries 345 = .ok (.iadd, 1) := by decide +kernel
theorem d_M_tries_346 : decode b_M_tries 346 = .ok (.iload 5, 2) := by decide +kernel
theorem d_M_tries_348 : decode b_M_tries 348 = .ok (.bipush 60, 2) := by decide +kernel
theorem d_M_tries_350 : decode b_M_tries 350 = .ok (.irem, 1) := by decide +kernel
theorem d_M_tries_351 : decode b_M_tries 351 = .ok (.iastore, 1) := by decide +kernel
theorem d_M_tries_352 : decode b_M_tries 352 = .ok (.aload_n 0, 1) := by decide +kernel
theorem d_M_tries_353 : decode b_M_tries 353 = .ok (.getfield 34, 3) := by decide +kernel
theorem d_M_tries_356 : decode b_M_tries 356 = .ok (.iload 4, 2) := by decide +kernel
theorem d_M_tries_358 : decode b_M_tries 358 = .ok (.iconst 1, 1) := by decide +kernel
theorem d_M_tries_359 : decode b_M_tries 359 = .ok (.bastore, 1) := by decide +kernel
theorem d_M_tries_360 : decode b_M_tries 360 = .ok (.aload_n 0, 1) := by decide +kernel
theorem d_M_tries_361 : decode b_M_tries 361 = .ok (.getfield 104, 3) := by decide +kernel
theorem d_M_tries_364 : decode b_M_tries 364 = .ok (.ifCond .lt 18, 3) := by decide +kernel
theorem d_M_tries_367 : decode b_M_tries 367 = .ok (.aload_n 0, 1) := by decide +kernel
theorem d_M_tries_368 : decode b_M_tries 368 = .ok (.invokevirtual 100, 3) := by decide +kernel
theorem d_M_tries_371 : decode b_M_tries 371 = .ok (.aload_n 0, 1) := by decide +kernel
theorem d_M_tries_372 : decode b_M_tries 372 = .ok (.getfield 104, 3) := by decide +kernel
theorem d_M_tries_375 : decode b_M_tries 375 = .ok (.if_icmp .lt 7, 3) := by decide +kernel
theorem d_M_tries_378 : decode b_M_tries 378 = .ok (.iconst 1, 1) := by decide +kernel
theorem d_M_tries_379 : decode b_M_tries 379 = .ok (.goto 4, 3) := by decide +kernel
theorem d_M_tries_382 : decode b_M_tries 382 = .ok (.iconst 0, 1) := by decide +kernel
theorem d_M_tries_383 : decode b_M_tries 383 = .ok (.istore 6, 2) := by decide +kernel
theorem d_M_tries_385 : decode b_M_tries 385 = .ok (.iload_n 1, 1) := by decide +kernel
theorem d_M_tries_386 : decode b_M_tries 386 = .ok (.iload 4, 2) := by decide +kernel
theorem d_M_tries_388 : decode b_M_tries 388 = .ok (.invokestatic 113, 3) := by decide +kernel
theorem d_M_tries_391 : decode b_M_tries 391 = .ok (.istore 7, 2) := by decide +kernel
theorem d_M_tries_393 : decode b_M_tries 393 = .ok (.iload 6, 2) := by decide +kernel
theorem d_M_tries_395 : decode b_M_tries 395 = .ok (.ifCond .ne 13, 3) := by decide +kernel
theorem d_M_tries_398 : decode b_M_tries 398 = .ok (.iload 7, 2) := by decide +kernel
theorem d_M_tries_400 : decode b_M_tries 400 = .ok (.ifCond .ge 8, 3) := by decide +kernel
theorem d_M_tries_403 : decode b_M_tries 403 = .ok (.aload_n 0, 1) := by decide +kernel
theorem d_M_tries_404 : decode b_M_tries 404 = .ok (.iload_n 1, 1) := by decide +kernel
theorem d_M_tries_405 : decode b_M_tries 405 = .ok (.invokevirtual 116, 3) := by decide +kernel
theorem d_M_tries_408 : decode b_M_tries 408 = .ok (.iload 6, 2) := by decide +kernel
theorem d_M_tries_410 : decode b_M_tries 410 = .ok (.ifCond .ne 40, 3) := by decide +kernel
theorem d_M_tries_413 : decode b_M_tries 413 = .ok (.iload 7, 2) := by decide +kernel
theorem d_M_tries_415 : decode b_M_tries 415 = .ok (.ifCond .lt 35, 3) := by decide +kernel
theorem d_M_tries_418 : decode b_M_tries 418 = .ok (.iload 7, 2) := by decide +kernel
theorem d_M_tries_420 : decode b_M_tries 420 = .ok (.istore 4, 2) := by decide +kernel
theorem d_M_tries_422 : decode b_M_tries 422 = .ok (.aload_n 0, 1) := by decide +kernel
theorem d_M_tries_423 : decode b_M_tries 423 = .ok (.getfield 22, 3) := by decide +kernel
theorem d_M_tries_426 : decode b_M_tries 426 = .ok (.bipush 18, 2) := by decide +kernel
theorem d_M_tries_428 : decode b_M_tries 428 = .ok (.iconst 3, 1) := by decide +kernel
theorem d_M_tries_429 : decode b_M_tries 429 = .ok (.iload 4, 2) := by decide +kernel
theorem d_M_tries_431 : decode b_M_tries 431 = .ok (.imul, 1) := by decide +kernel
theorem d_M_tries_432 : decode b_M_tries 432 = .ok (.iadd, 1) := by decide +kernel
theorem d_M_tries_433 : decode b_M_tries 433 = .ok (.iconst 0, 1) := by decide +kernel
theorem d_M_tries_434 : decode b_M_tries 434 = .ok (.iastore, 1) := by decide +kernel
theorem d_M_tries_435 : decode b_M_tries 435 = .ok (.aload_n 0, 1) := by decide +kernel
theorem d_M_tries_436 : decode b_M_tries 436 = .ok (.getfield 22, 3) := by decide +kernel
theorem d_M_tries_439 : decode b_M_tries 439 = .ok (.bipush 18, 2) := by decide +kernel
theorem d_M_tries_441 : decode b_M_tries 441 = .ok (.iconst 3, 1) := by decide +kernel
theorem d_M_tries_442 : decode b_M_tries 442 = .ok (.iload 4, 2) := by decide +kernel
theorem d_M_tries_444 : decode b_M_tries 444 = .ok (.imul, 1) := by decide +kernel
theorem d_M_tries_445 : decode b_M_tries 445 = .ok (.iadd, 1) := by decide +kernel
theorem d_M_tries_446 : decode b_M_tries 446 = .ok (.iconst 1, 1) := by decide +kernel
theorem d_M_tries_447 : decode b_M_tries 447 = .ok (.iadd, 1) := by decide +kernel
theorem d_M_tries_448 : decode b_M_tries 448 = .ok (.iconst (-1), 1) := by decide +kernel
theorem d_M_tries_449 : decode b_M_tries 449 = .ok (.iastore, 1) := by decide +kernel
theorem d_M_tries_450 : decode b_M_tries 450 = .ok (.goto (-264), 3) := by decide +kernel
theorem d_M_tries_453 : decode b_M_tries 453 = .ok (.iconst 1, 1) := by decide +kernel
theorem d_M_tries_454 : decode b_M_tries 454 = .ok (.ireturn, 1) := by decide +kernel
theorem d_M_bits_0 : decode b_M_bits 0 = .ok (.iconst 0, 1) := by decide +kernel
theorem d_M_bits_1 : decode b_M_bits 1 = .ok (.istore_n 1, 1) := by decide +kernel
theorem d_M_bits_2 : decode b_M_bits 2 = .ok (.iconst 0, 1) := by decide +kernel
theorem d_M_bits_3 : decode b_M_bits 3 = .ok (.istore_n 2, 1) := by decide +kernel
theorem d_M_bits_4 : decode b_M_bits 4 = .ok (.iload_n 2, 1) := by decide +kernel
theorem d_M_bits_5 : decode b_M_bits 5 = .ok (.bipush 6, 2) := by decide +kernel
theorem d_M_bits_7 : decode b_M_bits 7 = .ok (.if_icmp .ge 17, 3) := by decide +kernel
theorem d_M_bits_10 : decode b_M_bits 10 = .ok (.iload_n 1, 1) := by decide +kernel
theorem d_M_bits_11 : decode b_M_bits 11 = .ok (.iload_n 0, 1) := by decide +kernel
theorem d_M_bits_12 : decode b_M_bits 12 = .ok (.iload_n 2, 1) := by decide +kernel
theorem d_M_bits_13 : decode b_M_bits 13 = .ok (.ishr, 1) := by decide +kernel
theorem d_M_bits_14 : decode b_M_bits 14 = .ok (.iconst 1, 1) := by decide +kernel
theorem d_M_bits_15 : decode b_M_bits 15 = .ok (.iand, 1) := by decide +kernel
theorem d_M_bits_16 : decode b_M_bits 16 = .ok (.iadd, 1) := by decide +kernel
theorem d_M_bits_17 : decode b_M_bits 17 = .ok (.istore_n 1, 1) := by decide +kernel
theorem d_M_bits_18 : decode b_M_bits 18 = .ok (.iinc 2 1, 3) := by decide +kernel
theorem d_M_bits_21 : decode b_M_bits 21 = .ok (.goto (-17), 3) := by decide +kernel
theorem d_M_bits_24 : decode b_M_bits 24 = .ok (.iload_n 1, 1) := by decide +kernel
theorem d_M_bits_25 : decode b_M_bits 25 = .ok (.ireturn, 1) := by decide +kernel
theorem d_M_run_0 : decode b_M_run 0 = .ok (.aload_n 0, 1) := by decide +kernel
theorem d_M_run_1 : decode b_M_run 1 = .ok (.iload_n 1, 1) := by decide +kernel
theorem d_M_run_2 : decode b_M_run 2 = .ok (.iconst 0, 1) := by decide +kernel
theorem d_M_run_3 : decode b_M_run 3 = .ok (.ldc 130, 2) := by decide +kernel
theorem d_M_run_5 : decode b_M_run 5 = .ok (.invokestatic 45, 3) := by decide +kernel
theorem d_M_run_8 : decode b_M_run 8 = .ok (.ifCond .ne 7, 3) := by decide +kernel
theorem d_M_run_11 : decode b_M_run 11 = .ok (.iconst 1, 1) := by decide +kernel
theorem d_M_run_12 : decode b_M_run 12 = .ok (.goto 4, 3) := by decide +kernel
theorem d_M_run_15 : decode b_M_run 15 = .ok (.iconst 0, 1) := by decide +kernel
theorem d_M_run_16 : decode b_M_run 16 = .ok (.iconst 0, 1) := by decide +kernel
theorem d_M_run_17 : decode b_M_run 17 = .ok (.iconst 0, 1) := by decide +kernel
theorem d_M_run_18 : decode b_M_run 18 = .ok (.iconst 0, 1) := by decide +kernel
theorem d_M_run_19 : decode b_M_run 19 = .ok (.invokevirtual 68, 3) := by decide +kernel
theorem d_M_run_22 : decode b_M_run 22 = .ok (.ifCond .eq 5, 3) := by decide +kernel
theorem d_M_run_25 : decode b_M_run 25 = .ok (.iconst 0, 1) := by decide +kernel
theorem d_M_run_26 : decode b_M_run 26 = .ok (.ireturn, 1) := by decide +kernel
theorem d_M_run_27 : decode b_M_run 27 = .ok (.aload_n 0, 1) := by decide +kernel
theorem d_M_run_28 : decode b_M_run 28 = .ok (.iconst 1, 1) := by decide +kernel
theorem d_M_run_29 : decode b_M_run 29 = .ok (.putfield 131, 3) := by decide +kernel
theorem d_M_run_32 : decode b_M_run 32 = .ok (.aload_n 0, 1) := by decide +kernel
theorem d_M_run_33 : decode b_M_run 33 = .ok (.iconst 0, 1) := by decide +kernel
theorem d_M_run_34 : decode b_M_run 34 = .ok (.putfield 134, 3) := by decide +kernel
theorem d_M_run_37 : decode b_M_run 37 = .ok (.aload_n 0, 1) := by decide +kernel
theorem d_M_run_38 : decode b_M_run 38 = .ok (.iconst 0, 1) := by decide +kernel
theorem d_M_run_39 : decode b_M_run 39 = .ok (.putfield 127, 3) := by decide +kernel
theorem d_M_run_42 : decode b_M_run 42 = .ok (.aload_n 0, 1) := by decide +kernel
theorem d_M_run_43 : decode b_M_run 43 = .ok (.iconst 0, 1) := by decide +kernel
theorem d_M_run_44 : decode b_M_run 44 = .ok (.putfield 107, 3) := by decide +kernel
theorem d_M_run_47 : decode b_M_run 47 = .ok (.aload_n 0, 1) := by decide +kernel
theorem d_M_run_48 : decode b_M_run 48 = .ok (.iconst (-1), 1) := by decide +kernel
theorem d_M_run_49 : decode b_M_run 49 = .ok (.putfield 104, 3) := by decide +kernel
theorem d_M_run_52 : decode b_M_run 52 = .ok (.iconst 0, 1) := by decide +kernel
theorem d_M_run_53 : decode b_M_run 53 = .ok (.istore_n 2, 1) := by decide +kernel
theorem d_M_run_54 : decode b_M_run 54 = .ok (.iconst 0, 1) := by decide +kernel
theorem d_M_run_55 : decode b_M_run 55 = .ok (.istore_n 3, 1) := by decide +kernel
theorem d_M_run_56 : decode b_M_run 56 = .ok (.iload_n 3, 1) := by decide +kernel
theorem d_M_run_57 : decode b_M_run 57 = .ok (.aload_n 0, 1) := by decide +kernel
theorem d_M_run_58 : decode b_M_run 58 = .ok (.getfield 42, 3) := by decide +kernel
theorem d_M_run_61 : decode b_M_run 61 = .ok (.if_icmp .ge 27, 3) := by decide +kernel
theorem d_M_run_64 : decode b_M_run 64 = .ok (.iload_n 2, 1) := by decide +kernel
theorem d_M_run_65 : decode b_M_run 65 = .ok (.aload_n 0, 1) := by decide +kernel
theorem d_M_run_66 : decode b_M_run 66 = .ok (.iload_n 3, 1) := by decide +kernel
theorem d_M_run_67 : decode b_M_run 67 = .ok (.invokevirtual 90, 3) := by decide +kernel
theorem d_M_run_70 : decode b_M_run 70 = .ok (.ifCond .eq 7, 3) := by decide +kernel
theorem d_M_run_73 : decode b_M_run 73 = .ok (.iconst 0, 1) := by decide +kernel
theorem d_M_run_74 : decode b_M_run 74 = .ok (.goto 6, 3) := by decide +kernel
theorem d_M_run_77 : decode b_M_run 77 = .ok (.iconst 1, 1) := by decide +kernel
theorem d_M_run_78 : decode b_M_run 78 = .ok (.iload_n 3, 1) := by decide +kernel
theorem d_M_run_79 : decode b_M_run 79 = .ok (.ishl, 1) := by decide +kernel
theorem d_M_run_80 : decode b_M_run 80 = .ok (.ior, 1) := by decide +kernel
theorem d_M_run_81 : decode b_M_run 81 = .ok (.istore_n 2, 1) := by decide +kernel
theorem d_M_run_82 : decode b_M_run 82 = .ok (.iinc 3 1, 3) := by decide +kernel
theorem d_M_run_85 : decode b_M_run 85 = .ok (.goto (-29), 3) := by decide +kernel
theorem d_M_run_88 : decode b_M_run 88 = .ok (.aload_n 0, 1) := by decide +kernel
theorem d_M_run_89 : decode b_M_run 89 = .ok (.iconst 0, 1) := by decide +kernel
theorem d_M_run_90 : decode b_M_run 90 = .ok (.putfield 137, 3) := by decide +kernel
theorem d_M_run_93 : decode b_M_run 93 = .ok (.aload_n 0, 1) := by decide +kernel
theorem d_M_run_94 : decode b_M_run 94 = .ok (.getfield 104, 3) := by decide +kernel
theorem d_M_run_97 : decode b_M_run 97 = .ok (.ifCond .ge 106, 3) := by decide +kernel
theorem d_M_run_100 : decode b_M_run 100 = .ok (.aload_n 0, 1) := by decide +kernel
theorem d_M_run_101 : decode b_M_run 101 = .ok (.getfield 134, 3) := by decide +kernel
theorem d_M_run_104 : decode b_M_run 104 = .ok (.ifCond .ne 99, 3) := by decide +kernel
theorem d_M_run_107 : decode b_M_run 107 = .ok (.aload_n 0, 1) := by decide +kernel
theorem d_M_run_108 : decode b_M_run 108 = .ok (.getfield 137, 3) := by decide +kernel
theorem d_M_run_111 : decode b_M_run 111 = .ok (.iload_n 2, 1) := by decide +kernel
theorem d_M_run_112 : decode b_M_run 112 = .ok (.invokestatic 140, 3) := by decide +kernel
theorem d_M_run_115 : decode b_M_run 115 = .ok (.if_icmp .gt 88, 3) := by decide +kernel
theorem d_M_run_118 : decode b_M_run 118 = .ok (.iconst 0, 1) := by decide +kernel
theorem d_M_run_119 : decode b_M_run 119 = .ok (.istore_n 3, 1) := by decide +kernel
theorem d_M_run_120 : decode b_M_run 120 = .ok (.iload_n 3, 1) := by decide +kernel
theorem d_M_run_121 : decode b_M_run 121 = .ok (.bipush 64, 2) := by decide +kernel
theorem d_M_run_123 : decode b_M_run 123 = .ok (.if_icmp .ge 53, 3) := by decide +kernel
theorem d_M_run_126 : decode b_M_run 126 = .ok (.aload_n 0, 1) := by decide +kernel
theorem d_M_run_127 : decode b_M_run 127 = .ok (.getfield 134, 3) := by decide +kernel
theorem d_M_run_130 : decode b_M_run 130 = .ok (.ifCond .ne 46, 3) := by decide +kernel
theorem d_M_run_133 : decode b_M_run 133 = .ok (.iload_n 3, 1) := by decide +kernel
theorem d_M_run_134 : decode b_M_run 134 = .ok (.iload_n 2, 1) := by decide +kernel
theorem d_M_run_135 : decode b_M_run 135 = .ok (.iconst (-1), 1) := by decide +kernel
theorem d_M_run_136 : decode b_M_run 136 = .ok (.ixor, 1) := by decide +kernel
theorem d_M_run_137 : decode b_M_run 137 = .ok (.iand, 1) := by decide +kernel
theorem d_M_run_138 : decode b_M_run 138 = .ok (.ifCond .ne 32, 3) := by decide +kernel
theorem d_M_run_141 : decode b_M_run 141 = .ok (.iload_n 3, 1) := by decide +kernel
theorem d_M_run_142 : decode b_M_run 142 = .ok (.invokestatic 140, 3) := by decide +kernel
theorem d_M_run_145 : decode b_M_run 145 = .ok (.aload_n 0, 1) := by decide +kernel
theorem d_M_run_146 : decode b_M_run 146 = .ok (.getfield 137, 3) := by decide +kernel
theorem d_M_run_149 : decode b_M_run 149 = .ok (.if_icmp .ne 21, 3) := by decide +kernel
theorem d_M_run_152 : decode b_M_run 152 = .ok (.aload_n 0, 1) := by decide +kernel
theorem d_M_run_153 : decode b_M_run 153 = .ok (.aload_n 0, 1) := by decide +kernel
theorem d_M_run_154 : decode b_M_run 154 = .ok (.iload_n 3, 1) := by decide +kernel
theorem d_M_run_155 : decode b_M_run 155 = .ok (.iload_n 1, 1) := by decide +kernel
theorem d_M_run_156 : decode b_M_run 156 = .ok (.invokevirtual 144, 3) := by decide +kernel
theorem d_M_run_159 : decode b_M_run 159 = .ok (.ifCond .ne 7, 3) := by decide +kernel
theorem d_M_run_162 : decode b_M_run 162 = .ok (.iconst 1, 1) := by decide +kernel
theorem d_M_run_163 : decode b_M_run 163 = .ok (.goto 4, 3) := by decide +kernel
theorem d_M_run_166 : decode b_M_run 166 = .ok (.iconst 0, 1) := by decide +kernel
theorem d_M_run_167 : decode b_M_run 167 = .ok (.putfield 134, 3) := by decide +kernel
theorem d_M_run_170 : decode b_M_run 170 = .ok (.iinc 3 1, 3) := by decide +kernel
theorem d_M_run_173 : decode b_M_run 173 = .ok (.goto (-53), 3) := by decide +kernel
theorem d_M_run_176 : decode b_M_run 176 = .ok (.aload_n 0, 1) := by decide +kernel
theorem d_M_run_177 : decode b_M_run 177 = .ok (.getfield 104, 3) := by decide +kernel
theorem d_M_run_180 : decode b_M_run 180 = .ok (.ifCond .ge (-87), 3) := by decide +kernel
theorem d_M_run_183 : decode b_M_run 183 = .ok (.aload_n 0, 1) := by decide +kernel
theorem d_M_run_184 : decode b_M_run 184 = .ok (.getfield 134, 3) := by decide +kernel
theorem d_M_run_187 : decode b_M_run 187 = .ok (.ifCond .ne (-94), 3) := by decide +kernel
theorem d_M_run_190 : decode b_M_run 190 = .ok (.aload_n 0, 1) := by decide +kernel
theorem d_M_run_191 : decode b_M_run 191 = .ok (.dup, 1) := by decide +kernel
theorem d_M_run_192 : decode b_M_run 192 = .ok (.getfield 137, 3) := by decide +kernel
theorem d_M_run_195 : decode b_M_run 195 = .ok (.iconst 1, 1) := by decide +kernel
theorem d_M_run_196 : decode b_M_run 196 = .ok (.iadd, 1) := by decide +kernel
theorem d_M_run_197 : decode b_M_run 197 = .ok (.putfield 137, 3) := by decide +kernel
theorem d_M_run_200 : decode b_M_run 200 = .ok (.goto (-107), 3) := by decide +kernel
theorem d_M_run_203 : decode b_M_run 203 = .ok (.aload_n 0, 1) := by decide +kernel
theorem d_M_run_204 : decode b_M_run 204 = .ok (.getfield 137, 3) := by decide +kernel
theorem d_M_run_207 : decode b_M_run 207 = .ok (.iload_n 2, 1) := by decide +kernel
theorem d_M_run_208 : decode b_M_run 208 = .ok (.invokestatic 140, 3) := by decide +kernel
theorem d_M_run_211 : decode b_M_run 211 = .ok (.if_icmp .le 11, 3) := by decide +kernel
theorem d_M_run_214 : decode b_M_run 214 = .ok (.aload_n 0, 1) := by decide +kernel
theorem d_M_run_215 : decode b_M_run 215 = .ok (.iload_n 2, 1) := by decide +kernel
theorem d_M_run_216 : decode b_M_run 216 = .ok (.invokestatic 140, 3) := by decide +kernel
theorem d_M_run_219 : decode b_M_run 219 = .ok (.putfield 137, 3) := by decide +kernel
theorem d_M_run_222 : decode b_M_run 222 = .ok (.aload_n 0, 1) := by decide +kernel
theorem d_M_run_223 : decode b_M_run 223 = .ok (.getfield 104, 3) := by decide +kernel
theorem d_M_run_226 : decode b_M_run 226 = .ok (.ifCond .ge 5, 3) := by decide +kernel
theorem d_M_run_229 : decode b_M_run 229 = .ok (.iconst (-1), 1) := by decide +kernel
theorem d_M_run_230 : decode b_M_run 230 = .ok (.ireturn, 1) := by decide +kernel
theorem d_M_run_231 : decode b_M_run 231 = .ok (.aload_n 0, 1) := by decide +kernel
theorem d_M_run_232 : decode b_M_run 232 = .ok (.getfield 137, 3) := by decide +kernel
theorem d_M_run_235 : decode b_M_run 235 = .ok (.ifCond .le 14, 3) := by decide +kernel
theorem d_M_run_238 : decode b_M_run 238 = .ok (.aload_n 0, 1) := by decide +kernel
theorem d_M_run_239 : decode b_M_run 239 = .ok (.invokevirtual 93, 3) := by decide +kernel
theorem d_M_run_242 : decode b_M_run 242 = .ok (.aload_n 0, 1) := by decide +kernel
theorem d_M_run_243 : decode b_M_run 243 = .ok (.bipush 36, 2) := by decide +kernel
theorem d_M_run_245 : decode b_M_run 245 = .ok (.iconst 0, 1) := by decide +kernel
theorem d_M_run_246 : decode b_M_run 246 = .ok (.invokevirtual 82, 3) := by decide +kernel
theorem d_M_run_249 : decode b_M_run 249 = .ok (.aload_n 0, 1) := by decide +kernel
theorem d_M_run_250 : decode b_M_run 250 = .ok (.getfield 137, 3) := by decide +kernel
theorem d_M_run_253 : decode b_M_run 253 = .ok (.ireturn, 1) := by decide +kernel
theorem d_M_told_0 : decode b_M_told 0 = .ok (.aload_n 0, 1) := by decide +kernel
theorem d_M_told_1 : decode b_M_told 1 = .ok (.iload_n 1, 1) := by decide +kernel
theorem d_M_told_2 : decode b_M_told 2 = .ok (.iconst 0, 1) := by decide +kernel
theorem d_M_told_3 : decode b_M_told 3 = .ok (.iconst 3, 1) := by decide +kernel
theorem d_M_told_4 : decode b_M_told 4 = .ok (.invokestatic 45, 3) := by decide +kernel
theorem d_M_told_7 : decode b_M_told 7 = .ok (.ifCond .ne 7, 3) := by decide +kernel
theorem d_M_told_10 : decode b_M_told 10 = .ok (.iconst 1, 1) := by decide +kernel
theorem d_M_told_11 : decode b_M_told 11 = .ok (.goto 4, 3) := by decide +kernel
theorem d_M_told_14 : decode b_M_told 14 = .ok (.iconst 0, 1) := by decide +kernel
theorem d_M_told_15 : decode b_M_told 15 = .ok (.aload_n 0, 1) := by decide +kernel
theorem d_M_told_16 : decode b_M_told 16 = .ok (.getfield 131, 3) := by decide +kernel
theorem d_M_told_19 : decode b_M_told 19 = .ok (.ifCond .ne 7, 3) := by decide +kernel
theorem d_M_told_22 : decode b_M_told 22 = .ok (.iconst 1, 1) := by decide +kernel
theorem d_M_told_23 : decode b_M_told 23 = .ok (.goto 4, 3) := by decide +kernel
theorem d_M_told_26 : decode b_M_told 26 = .ok (.iconst 0, 1) := by decide +kernel
theorem d_M_told_27 : decode b_M_told 27 = .ok (.iconst 0, 1) := by decide +kernel
theorem d_M_told_28 : decode b_M_told 28 = .ok (.iconst 0, 1) := by decide +kernel
theorem d_M_told_29 : decode b_M_told 29 = .ok (.invokevirtual 68, 3) := by decide +kernel
theorem d_M_told_32 : decode b_M_told 32 = .ok (.ifCond .eq 5, 3) := by decide +kernel
theorem d_M_told_35 : decode b_M_told 35 = .ok (.iconst 0, 1) := by decide +kernel
theorem d_M_told_36 : decode b_M_told 36 = .ok (.ireturn, 1) := by decide +kernel
theorem d_M_told_37 : decode b_M_told 37 = .ok (.iload_n 1, 1) := by decide +kernel
theorem d_M_told_38 : decode b_M_told 38 = .ok (.ifCond .ne 18, 3) := by decide +kernel
theorem d_M_told_41 : decode b_M_told 41 = .ok (.aload_n 0, 1) := by decide +kernel
theorem d_M_told_42 : decode b_M_told 42 = .ok (.getfield 134, 3) := by decide +kernel
theorem d_M_told_45 : decode b_M_told 45 = .ok (.ifCond .eq 7, 3) := by decide +kernel
theorem d_M_told_48 : decode b_M_told 48 = .ok (.iconst 1, 1) := by decide +kernel
theorem d_M_told_49 : decode b_M_told 49 = .ok (.goto 35, 3) := by decide +kernel
theorem d_M_told_52 : decode b_M_told 52 = .ok (.iconst 0, 1) := by decide +kernel
theorem d_M_told_53 : decode b_M_told 53 = .ok (.goto 31, 3) := by decide +kernel
theorem d_M_told_56 : decode b_M_told 56 = .ok (.iload_n 1, 1) := by decide +kernel
theorem d_M_told_57 : decode b_M_told 57 = .ok (.iconst 1, 1) := by decide +kernel
theorem d_M_told_58 : decode b_M_told 58 = .ok (.if_icmp .ne 10, 3) := by decide +kernel
theorem d_M_told_61 : decode b_M_told 61 = .ok (.aload_n 0, 1) := by decide +kernel
theorem d_M_told_62 : decode b_M_told 62 = .ok (.getfield 127, 3) := by decide +kernel
theorem d_M_told_65 : decode b_M_told 65 = .ok (.goto 19, 3) := by decide +kernel
theorem d_M_told_68 : decode b_M_told 68 = .ok (.iload_n 1, 1) := by decide +kernel
theorem d_M_told_69 : decode b_M_told 69 = .ok (.iconst 2, 1) := by decide +kernel
theorem d_M_told_70 : decode b_M_told 70 = .ok (.if_icmp .ne 10, 3) := by decide +kernel
theorem d_M_told_73 : decode b_M_told 73 = .ok (.aload_n 0, 1) := by decide +kernel
theorem d_M_told_74 : decode b_M_told 74 = .ok (.getfield 137, 3) := by decide +kernel
theorem d_M_told_77 : decode b_M_told 77 = .ok (.goto 7, 3) := by decide +kernel
theorem d_M_told_80 : decode b_M_told 80 = .ok (.aload_n 0, 1) := by decide +kernel
theorem d_M_told_81 : decode b_M_told 81 = .ok (.getfield 107, 3) := by decide +kernel
theorem d_M_told_84 : decode b_M_told 84 = .ok (.ireturn, 1) := by decide +kernel
theorem d_M_at_0 : decode b_M_at 0 = .ok (.aload_n 0, 1) := by decide +kernel
theorem d_M_at_1 : decode b_M_at 1 = .ok (.aload_n 0, 1) := by decide +kernel
theorem d_M_at_2 : decode b_M_at 2 = .ok (.iload_n 1, 1) := by decide +kernel
theorem d_M_at_3 : decode b_M_at 3 = .ok (.invokevirtual 86, 3) := by decide +kernel
theorem d_M_at_6 : decode b_M_at 6 = .ok (.ifCond .eq 12, 3) := by decide +kernel
theorem d_M_at_9 : decode b_M_at 9 = .ok (.iload_n 2, 1) := by decide +kernel
theorem d_M_at_10 : decode b_M_at 10 = .ok (.iconst 0, 1) := by decide +kernel
theorem d_M_at_11 : decode b_M_at 11 = .ok (.iconst 4, 1) := by decide +kernel
theorem d_M_at_12 : decode b_M_at 12 = .ok (.invokestatic 45, 3) := by decide +kernel
theorem d_M_at_15 : decode b_M_at 15 = .ok (.ifCond .ne 7, 3) := by decide +kernel
theorem d_M_at_18 : decode b_M_at 18 = .ok (.iconst 1, 1) := by decide +kernel
theorem d_M_at_19 : decode b_M_at 19 = .ok (.goto 4, 3) := by decide +kernel
theorem d_M_at_22 : decode b_M_at 22 = .ok (.iconst 0, 1) := by decide +kernel
theorem d_M_at_23 : decode b_M_at 23 = .ok (.iconst 0, 1) := by decide +kernel
theorem d_M_at_24 : decode b_M_at 24 = .ok (.iconst 0, 1) := by decide +kernel
theorem d_M_at_25 : decode b_M_at 25 = .ok (.iconst 0, 1) := by decide +kernel
theorem d_M_at_26 : decode b_M_at 26 = .ok (.invokevirtual 68, 3) := by decide +kernel
theorem d_M_at_29 : decode b_M_at 29 = .ok (.ifCond .eq 5, 3) := by decide +kernel
theorem d_M_at_32 : decode b_M_at 32 = .ok (.iconst 0, 1) := by decide +kernel
theorem d_M_at_33 : decode b_M_at 33 = .ok (.ireturn, 1) := by decide +kernel
theorem d_M_at_34 : decode b_M_at 34 = .ok (.iload_n 2, 1) := by decide +kernel
theorem d_M_at_35 : decode b_M_at 35 = .ok (.iconst 3, 1) := by decide +kernel
theorem d_M_at_36 : decode b_M_at 36 = .ok (.if_icmp .ge 14, 3) := by decide +kernel
theorem d_M_at_39 : decode b_M_at 39 = .ok (.aload_n 0, 1) := by decide +kernel
theorem d_M_at_40 : decode b_M_at 40 = .ok (.getfield 22, 3) := by decide +kernel
theorem d_M_at_43 : decode b_M_at 43 = .ok (.iconst 3, 1) := by decide +kernel
theorem d_M_at_44 : decode b_M_at 44 = .ok (.iload_n 1, 1) := by decide +kernel
theorem d_M_at_45 : decode b_M_at 45 = .ok (.imul, 1) := by decide +kernel
theorem d_M_at_46 : decode b_M_at 46 = .ok (.iload_n 2, 1) := by decide +kernel
theorem d_M_at_47 : decode b_M_at 47 = .ok (.iadd, 1) := by decide +kernel
theorem d_M_at_48 : decode b_M_at 48 = .ok (.iaload, 1) := by decide +kernel
theorem d_M_at_49 : decode b_M_at 49 = .ok (.ireturn, 1) := by decide +kernel
theorem d_M_at_50 : decode b_M_at 50 = .ok (.iload_n 2, 1) := by decide +kernel
theorem d_M_at_51 : decode b_M_at 51 = .ok (.iconst 3, 1) := by decide +kernel
theorem d_M_at_52 : decode b_M_at 52 = .ok (.if_icmp .ne 37, 3) := by decide +kernel
theorem d_M_at_55 : decode b_M_at 55 = .ok (.aload_n 0, 1) := by decide +kernel
theorem d_M_at_56 : decode b_M_at 56 = .ok (.iload_n 1, 1) := by decide +kernel
theorem d_M_at_57 : decode b_M_at 57 = .ok (.aload_n 0, 1) := by decide +kernel
theorem d_M_at_58 : decode b_M_at 58 = .ok (.getfield 22, 3) := by decide +kernel
theorem d_M_at_61 : decode b_M_at 61 = .ok (.iconst 3, 1) := by decide +kernel
theorem d_M_at_62 : decode b_M_at 62 = .ok (.iload_n 1, 1) := by decide +kernel
theorem d_M_at_63 : decode b_M_at 63 = .ok (.imul, 1) := by decide +kernel
theorem d_M_at_64 : decode b_M_at 64 = .ok (.iaload, 1) := by decide +kernel
theorem d_M_at_65 : decode b_M_at 65 = .ok (.aload_n 0, 1) := by decide +kernel
theorem d_M_at_66 : decode b_M_at 66 = .ok (.getfield 22, 3) := by decide +kernel
theorem d_M_at_69 : decode b_M_at 69 = .ok (.iconst 3, 1) := by decide +kernel
theorem d_M_at_70 : decode b_M_at 70 = .ok (.iload_n 1, 1) := by decide +kernel
theorem d_M_at_71 : decode b_M_at 71 = .ok (.imul, 1) := by decide +kernel
theorem d_M_at_72 : decode b_M_at 72 = .ok (.iconst 1, 1) := by decide +kernel
theorem d_M_at_73 : decode b_M_at 73 = .ok (.iadd, 1) := by decide +kernel
theorem d_M_at_74 : decode b_M_at 74 = .ok (.iaload, 1) := by decide +kernel
theorem d_M_at_75 : decode b_M_at 75 = .ok (.invokevirtual 72, 3) := by decide +kernel
theorem d_M_at_78 : decode b_M_at 78 = .ok (.ifCond .eq 7, 3) := by decide +kernel
theorem d_M_at_81 : decode b_M_at 81 = .ok (.iconst 1, 1) := by decide +kernel
theorem d_M_at_82 : decode b_M_at 82 = .ok (.goto 20, 3) := by decide +kernel
theorem d_M_at_85 : decode b_M_at 85 = .ok (.iconst 0, 1) := by decide +kernel
theorem d_M_at_86 : decode b_M_at 86 = .ok (.goto 16, 3) := by decide +kernel
theorem d_M_at_89 : decode b_M_at 89 = .ok (.aload_n 0, 1) := by decide +kernel
theorem d_M_at_90 : decode b_M_at 90 = .ok (.iload_n 1, 1) := by decide +kernel
theorem d_M_at_91 : decode b_M_at 91 = .ok (.invokevirtual 90, 3) := by decide +kernel
theorem d_M_at_94 : decode b_M_at 94 = .ok (.ifCond .eq 7, 3) := by decide +kernel
theorem d_M_at_97 : decode b_M_at 97 = .ok (.iconst 1, 1) := by decide +kernel
theorem d_M_at_98 : decode b_M_at 98 = .ok (.goto 4, 3) := by decide +kernel
theorem d_M_at_101 : decode b_M_at 101 = .ok (.iconst 0, 1) := by decide +kernel
theorem d_M_at_102 : decode b_M_at 102 = .ok (.ireturn, 1) := by decide +kernel
theorem d_M_cost_0 : decode b_M_cost 0 = .ok (.aload_n 0, 1) := by decide +kernel
theorem d_M_cost_1 : decode b_M_cost 1 = .ok (.iconst 0, 1) := by decide +kernel
theorem d_M_cost_2 : decode b_M_cost 2 = .ok (.putfield 38, 3) := by decide +kernel
theorem d_M_cost_5 : decode b_M_cost 5 = .ok (.iconst 0, 1) := by decide +kernel
theorem d_M_cost_6 : decode b_M_cost 6 = .ok (.istore_n 1, 1) := by decide +kernel
theorem d_M_cost_7 : decode b_M_cost 7 = .ok (.iconst 0, 1) := by decide +kernel
theorem d_M_cost_8 : decode b_M_cost 8 = .ok (.istore_n 2, 1) := by decide +kernel
theorem d_M_cost_9 : decode b_M_cost 9 = .ok (.iload_n 2, 1) := by decide +kernel
theorem d_M_cost_10 : decode b_M_cost 10 = .ok (.aload_n 0, 1) := by decide +kernel
theorem d_M_cost_11 : decode b_M_cost 11 = .ok (.getfield 42, 3) := by decide +kernel
theorem d_M_cost_14 : decode b_M_cost 14 = .ok (.if_icmp .ge 18, 3) := by decide +kernel
theorem d_M_cost_17 : decode b_M_cost 17 = .ok (.iload_n 1, 1) := by decide +kernel
theorem d_M_cost_18 : decode b_M_cost 18 = .ok (.aload_n 0, 1) := by decide +kernel
theorem d_M_cost_19 : decode b_M_cost 19 = .ok (.iconst 0, 1) := by decide +kernel
theorem d_M_cost_20 : decode b_M_cost 20 = .ok (.iload_n 2, 1) := by decide +kernel
theorem d_M_cost_21 : decode b_M_cost 21 = .ok (.invokevirtual 96, 3) := by decide +kernel
theorem d_M_cost_24 : decode b_M_cost 24 = .ok (.iadd, 1) := by decide +kernel
theorem d_M_cost_25 : decode b_M_cost 25 = .ok (.istore_n 1, 1) := by decide +kernel
theorem d_M_cost_26 : decode b_M_cost 26 = .ok (.iinc 2 1, 3) := by decide +kernel
theorem d_M_cost_29 : decode b_M_cost 29 = .ok (.goto (-20), 3) := by decide +kernel
theorem d_M_cost_32 : decode b_M_cost 32 = .ok (.iload_n 1, 1) := by decide +kernel
theorem d_M_cost_33 : decode b_M_cost 33 = .ok (.ireturn, 1) := by decide +kernel
theorem d_M_on_0 : decode b_M_on 0 = .ok (.aload_n 0, 1) := by decide +kernel
theorem d_M_on_1 : decode b_M_on 1 = .ok (.iload_n 1, 1) := by decide +kernel
theorem d_M_on_2 : decode b_M_on 2 = .ok (.iconst 0, 1) := by decide +kernel
theorem d_M_on_3 : decode b_M_on 3 = .ok (.iconst 2, 1) := by decide +kernel
theorem d_M_on_4 : decode b_M_on 4 = .ok (.invokestatic 45, 3) := by decide +kernel
theorem d_M_on_7 : decode b_M_on 7 = .ok (.ifCond .ne 7, 3) := by decide +kernel
theorem d_M_on_10 : decode b_M_on 10 = .ok (.iconst 1, 1) := by decide +kernel
theorem d_M_on_11 : decode b_M_on 11 = .ok (.goto 4, 3) := by decide +kernel
theorem d_M_on_14 : decode b_M_on 14 = .ok (.iconst 0, 1) := by decide +kernel
theorem d_M_on_15 : decode b_M_on 15 = .ok (.iload_n 2, 1) := by decide +kernel
theorem d_M_on_16 : decode b_M_on 16 = .ok (.iconst 0, 1) := by decide +kernel
theorem d_M_on_17 : decode b_M_on 17 = .ok (.bipush 59, 2) := by decide +kernel
theorem d_M_on_19 : decode b_M_on 19 = .ok (.invokestatic 45, 3) := by decide +kernel
theorem d_M_on_22 : decode b_M_on 22 = .ok (.ifCond .ne 7, 3) := by decide +kernel
theorem d_M_on_25 : decode b_M_on 25 = .ok (.iconst 1, 1) := by decide +kernel
theorem d_M_on_26 : decode b_M_on 26 = .ok (.goto 4, 3) := by decide +kernel
theorem d_M_on_29 : decode b_M_on 29 = .ok (.iconst 0, 1) := by decide +kernel
theorem d_M_on_30 : decode b_M_on 30 = .ok (.iconst 0, 1) := by decide +kernel
theorem d_M_on_31 : decode b_M_on 31 = .ok (.iconst 0, 1) := by decide +kernel
theorem d_M_on_32 : decode b_M_on 32 = .ok (.invokevirtual 68, 3) := by decide +kernel
theorem d_M_on_35 : decode b_M_on 35 = .ok (.ifCond .eq 5, 3) := by decide +kernel
theorem d_M_on_38 : decode b_M_on 38 = .ok (.iconst 0, 1) := by decide +kernel
theorem d_M_on_39 : decode b_M_on 39 = .ok (.ireturn, 1) := by decide +kernel
theorem d_M_on_40 : decode b_M_on 40 = .ok (.iconst (-1), 1) := by decide +kernel
theorem d_M_on_41 : decode b_M_on 41 = .ok (.istore_n 3, 1) := by decide +kernel
theorem d_M_on_42 : decode b_M_on 42 = .ok (.aload_n 0, 1) := by decide +kernel
theorem d_M_on_43 : decode b_M_on 43 = .ok (.getfield 42, 3) := by decide +kernel
theorem d_M_on_46 : decode b_M_on 46 = .ok (.iconst 1, 1) := by decide +kernel
theorem d_M_on_47 : decode b_M_on 47 = .ok (.isub, 1) := by decide +kernel
theorem d_M_on_48 : decode b_M_on 48 = .ok (.istore 4, 2) := by decide +kernel
theorem d_M_on_50 : decode b_M_on 50 = .ok (.iload 4, 2) := by decide +kernel
theorem d_M_on_52 : decode b_M_on 52 = .ok (.ifCond .lt 63, 3) := by decide +kernel
theorem d_M_on_55 : decode b_M_on 55 = .ok (.aload_n 0, 1) := by decide +kernel
theorem d_M_on_56 : decode b_M_on 56 = .ok (.getfield 22, 3) := by decide +kernel
theorem d_M_on_59 : decode b_M_on 59 = .ok (.iconst 3, 1) := by decide +kernel
theorem d_M_on_60 : decode b_M_on 60 = .ok (.iload 4, 2) := by decide +kernel
theorem d_M_on_62 : decode b_M_on 62 = .ok (.imul, 1) := by decide +kernel
theorem d_M_on_63 : decode b_M_on 63 = .ok (.iconst 1, 1) := by decide +kernel
theorem d_M_on_64 : decode b_M_on 64 = .ok (.iadd, 1) := by decide +kernel
theorem d_M_on_65 : decode b_M_on 65 = .ok (.iaload, 1) := by decide +kernel
theorem d_M_on_66 : decode b_M_on 66 = .ok (.istore 5, 2) := by decide +kernel
theorem d_M_on_68 : decode b_M_on 68 = .ok (.aload_n 0, 1) := by decide +kernel
theorem d_M_on_69 : decode b_M_on 69 = .ok (.getfield 22, 3) := by decide +kernel
theorem d_M_on_72 : decode b_M_on 72 = .ok (.iconst 3, 1) := by decide +kernel
theorem d_M_on_73 : decode b_M_on 73 = .ok (.iload 4, 2) := by decide +kernel
theorem d_M_on_75 : decode b_M_on 75 = .ok (.imul, 1) := by decide +kernel
theorem d_M_on_76 : decode b_M_on 76 = .ok (.iaload, 1) := by decide +kernel
theorem d_M_on_77 : decode b_M_on 77 = .ok (.iload_n 1, 1) := by decide +kernel
theorem d_M_on_78 : decode b_M_on 78 = .ok (.if_icmp .ne 29, 3) := by decide +kernel
theorem d_M_on_81 : decode b_M_on 81 = .ok (.iload_n 2, 1) := by decide +kernel
theorem d_M_on_82 : decode b_M_on 82 = .ok (.iload 5, 2) := by decide +kernel
theorem d_M_on_84 : decode b_M_on 84 = .ok (.iload 5, 2) := by decide +kernel
theorem d_M_on_86 : decode b_M_on 86 = .ok (.aload_n 0, 1) := by decide +kernel
theorem d_M_on_87 : decode b_M_on 87 = .ok (.getfield 16, 3) := by decide +kernel
theorem d_M_on_90 : decode b_M_on 90 = .ok (.iload 4, 2) := by decide +kernel
theorem d_M_on_92 : decode b_M_on 92 = .ok (.iaload, 1) := by decide +kernel
theorem d_M_on_93 : decode b_M_on 93 = .ok (.iadd, 1) := by decide +kernel
theorem d_M_on_94 : decode b_M_on 94 = .ok (.iconst 1, 1) := by decide +kernel
theorem d_M_on_95 : decode b_M_on 95 = .ok (.isub, 1) := by decide +kernel
theorem d_M_on_96 : decode b_M_on 96 = .ok (.invokestatic 45, 3) := by decide +kernel
theorem d_M_on_99 : decode b_M_on 99 = .ok (.ifCond .eq 8, 3) := by decide +kernel
theorem d_M_on_102 : decode b_M_on 102 = .ok (.iload 4, 2) := by decide +kernel
theorem d_M_on_104 : decode b_M_on 104 = .ok (.goto 4, 3) := by decide +kernel
theorem d_M_on_107 : decode b_M_on 107 = .ok (.iload_n 3, 1) := by decide +kernel
theorem d_M_on_108 : decode b_M_on 108 = .ok (.istore_n 3, 1) := by decide +kernel
theorem d_M_on_109 : decode b_M_on 109 = .ok (.iinc 4 (-1), 3) := by decide +kernel
theorem d_M_on_112 : decode b_M_on 112 = .ok (.goto (-62), 3) := by decide +kernel
theorem d_M_on_115 : decode b_M_on 115 = .ok (.iload_n 3, 1) := by decide +kernel
theorem d_M_on_116 : decode b_M_on 116 = .ok (.ireturn, 1) := by decide +kernel
theorem d_M_keep_0 : decode b_M_keep 0 = .ok (.aload_n 0, 1) := by decide +kernel
theorem d_M_keep_1 : decode b_M_keep 1 = .ok (.iload_n 1, 1) := by decide +kernel
theorem d_M_keep_2 : decode b_M_keep 2 = .ok (.iconst 0, 1) := by decide +kernel
theorem d_M_keep_3 : decode b_M_keep 3 = .ok (.iconst 3, 1) := by decide +kernel
theorem d_M_keep_4 : decode b_M_keep 4 = .ok (.invokestatic 45, 3) := by decide +kernel
theorem d_M_keep_7 : decode b_M_keep 7 = .ok (.ifCond .ne 7, 3) := by decide +kernel
theorem d_M_keep_10 : decode b_M_keep 10 = .ok (.iconst 1, 1) := by decide +kernel
theorem d_M_keep_11 : decode b_M_keep 11 = .ok (.goto 4, 3) := by decide +kernel
theorem d_M_keep_14 : decode b_M_keep 14 = .ok (.iconst 0, 1) := by decide +kernel
theorem d_M_keep_15 : decode b_M_keep 15 = .ok (.iconst 0, 1) := by decide +kernel
theorem d_M_keep_16 : decode b_M_keep 16 = .ok (.iconst 0, 1) := by decide +kernel
theorem d_M_keep_17 : decode b_M_keep 17 = .ok (.iconst 0, 1) := by decide +kernel
theorem d_M_keep_18 : decode b_M_keep 18 = .ok (.invokevirtual 68, 3) := by decide +kernel
theorem d_M_keep_21 : decode b_M_keep 21 = .ok (.ifCond .eq 4, 3) := by decide +kernel
theorem d_M_keep_24 : decode b_M_keep 24 = .ok (.return_, 1) := by decide +kernel
theorem d_M_keep_25 : decode b_M_keep 25 = .ok (.aload_n 0, 1) := by decide +kernel
theorem d_M_keep_26 : decode b_M_keep 26 = .ok (.iconst 0, 1) := by decide +kernel
theorem d_M_keep_27 : decode b_M_keep 27 = .ok (.bipush 72, 2) := by decide +kernel
theorem d_M_keep_29 : decode b_M_keep 29 = .ok (.bipush 18, 2) := by decide +kernel
theorem d_M_keep_31 : decode b_M_keep 31 = .ok (.iload_n 1, 1) := by decide +kernel
theorem d_M_keep_32 : decode b_M_keep 32 = .ok (.imul, 1) := by decide +kernel
theorem d_M_keep_33 : decode b_M_keep 33 = .ok (.iadd, 1) := by decide +kernel
theorem d_M_keep_34 : decode b_M_keep 34 = .ok (.invokevirtual 82, 3) := by decide +kernel
theorem d_M_keep_37 : decode b_M_keep 37 = .ok (.aload_n 0, 1) := by decide +kernel
theorem d_M_keep_38 : decode b_M_keep 38 = .ok (.dup, 1) := by decide +kernel
theorem d_M_keep_39 : decode b_M_keep 39 = .ok (.getfield 79, 3) := by decide +kernel
theorem d_M_keep_42 : decode b_M_keep 42 = .ok (.iconst 1, 1) := by decide +kernel
theorem d_M_keep_43 : decode b_M_keep 43 = .ok (.iload_n 1, 1) := by decide +kernel
theorem d_M_keep_44 : decode b_M_keep 44 = .ok (.ishl, 1) := by decide +kernel
theorem d_M_keep_45 : decode b_M_keep 45 = .ok (.ior, 1) := by decide +kernel
theorem d_M_keep_46 : decode b_M_keep 46 = .ok (.putfield 79, 3) := by decide +kernel
theorem d_M_keep_49 : decode b_M_keep 49 = .ok (.return_, 1) := by decide +kernel
theorem d_M_isKept_0 : decode b_M_isKept 0 = .ok (.iload_n 1, 1) := by decide +kernel
theorem d_M_isKept_1 : decode b_M_isKept 1 = .ok (.iconst 0, 1) := by decide +kernel
theorem d_M_isKept_2 : decode b_M_isKept 2 = .ok (.iconst 3, 1) := by decide +kernel
theorem d_M_isKept_3 : decode b_M_isKept 3 = .ok (.invokestatic 45, 3) := by decide +kernel
theorem d_M_isKept_6 : decode b_M_isKept 6 = .ok (.ifCond .eq 19, 3) := by decide +kernel
theorem d_M_isKept_9 : decode b_M_isKept 9 = .ok (.aload_n 0, 1) := by decide +kernel
theorem d_M_isKept_10 : decode b_M_isKept 10 = .ok (.getfield 79, 3) := by decide +kernel
theorem d_M_isKept_13 : decode b_M_isKept 13 = .ok (.iload_n 1, 1) := by decide +kernel
theorem d_M_isKept_14 : decode b_M_isKept 14 = .ok (.ishr, 1) := by decide +kernel
theorem d_M_isKept_15 : decode b_M_isKept 15 = .ok (.iconst 1, 1) := by decide +kernel
theorem d_M_isKept_16 : decode b_M_isKept 16 = .ok (.iand, 1) := by decide +kernel
theorem d_M_isKept_17 : decode b_M_isKept 17 = .ok (.iconst 1, 1) := by decide +kernel
theorem d_M_isKept_18 : decode b_M_isKept 18 = .ok (.if_icmp .ne 7, 3) := by decide +kernel
theorem d_M_isKept_21 : decode b_M_isKept 21 = .ok (.iconst 1, 1) := by decide +kernel
theorem d_M_isKept_22 : decode b_M_isKept 22 = .ok (.goto 4, 3) := by decide +kernel
theorem d_M_isKept_25 : decode b_M_isKept 25 = .ok (.iconst 0, 1) := by decide +kernel
theorem d_M_isKept_26 : decode b_M_isKept 26 = .ok (.ireturn, 1) := by decide +kernel
theorem d_M_compare_0 : decode b_M_compare 0 = .ok (.aload_n 0, 1) := by decide +kernel
theorem d_M_compare_1 : decode b_M_compare 1 = .ok (.iload_n 1, 1) := by decide +kernel
theorem d_M_compare_2 : decode b_M_compare 2 = .ok (.iconst 0, 1) := by decide +kernel
theorem d_M_compare_3 : decode b_M_compare 3 = .ok (.iconst 3, 1) := by decide +kernel
theorem d_M_compare_4 : decode b_M_compare 4 = .ok (.invokestatic 45, 3) := by decide +kernel
theorem d_M_compare_7 : decode b_M_compare 7 = .ok (.ifCond .ne 7, 3) := by decide +kernel
theorem d_M_compare_10 : decode b_M_compare 10 = .ok (.iconst 1, 1) := by decide +kernel
theorem d_M_compare_11 : decode b_M_compare 11 = .ok (.goto 4, 3) := by decide +kernel
theorem d_M_compare_14 : decode b_M_compare 14 = .ok (.iconst 0, 1) := by decide +kernel
theorem d_M_compare_15 : decode b_M_compare 15 = .ok (.aload_n 0, 1) := by decide +kernel
theorem d_M_compare_16 : decode b_M_compare 16 = .ok (.iload_n 1, 1) := by decide +kernel
theorem d_M_compare_17 : decode b_M_compare 17 = .ok (.invokevirtual 147, 3) := by decide +kernel
theorem d_M_compare_20 : decode b_M_compare 20 = .ok (.ifCond .ne 7, 3) := by decide +kernel
theorem d_M_compare_23 : decode b_M_compare 23 = .ok (.iconst 1, 1) := by decide +kernel
theorem d_M_compare_24 : decode b_M_compare 24 = .ok (.goto 4, 3) := by decide +kernel
theorem d_M_compare_27 : decode b_M_compare 27 = .ok (.iconst 0, 1) := by decide +kernel
theorem d_M_compare_28 : decode b_M_compare 28 = .ok (.iconst 0, 1) := by decide +kernel
theorem d_M_compare_29 : decode b_M_compare 29 = .ok (.iconst 0, 1) := by decide +kernel
theorem d_M_compare_30 : decode b_M_compare 30 = .ok (.invokevirtual 68, 3) := by decide +kernel
theorem d_M_compare_33 : decode b_M_compare 33 = .ok (.ifCond .eq 5, 3) := by decide +kernel
theorem d_M_compare_36 : decode b_M_compare 36 = .ok (.iconst 0, 1) := by decide +kernel
theorem d_M_compare_37 : decode b_M_compare 37 = .ok (.ireturn, 1) := by decide +kernel
theorem d_M_compare_38 : decode b_M_compare 38 = .ok (.iconst 0, 1) := by decide +kernel
theorem d_M_compare_39 : decode b_M_compare 39 = .ok (.istore_n 2, 1) := by decide +kernel
theorem d_M_compare_40 : decode b_M_compare 40 = .ok (.iconst 0, 1) := by decide +kernel
theorem d_M_compare_41 : decode b_M_compare 41 = .ok (.istore_n 3, 1) := by decide +kernel
theorem d_M_compare_42 : decode b_M_compare 42 = .ok (.iload_n 3, 1) := by decide +kernel
theorem d_M_compare_43 : decode b_M_compare 43 = .ok (.aload_n 0, 1) := by decide +kernel
theorem d_M_compare_44 : decode b_M_compare 44 = .ok (.getfield 42, 3) := by decide +kernel
theorem d_M_compare_47 : decode b_M_compare 47 = .ok (.if_icmp .ge 85, 3) := by decide +kernel
theorem d_M_compare_50 : decode b_M_compare 50 = .ok (.iconst 1, 1) := by decide +kernel
theorem d_M_compare_51 : decode b_M_compare 51 = .ok (.istore 4, 2) := by decide +kernel
theorem d_M_compare_53 : decode b_M_compare 53 = .ok (.iconst 0, 1) := by decide +kernel
theorem d_M_compare_54 : decode b_M_compare 54 = .ok (.istore 5, 2) := by decide +kernel
theorem d_M_compare_56 : decode b_M_compare 56 = .ok (.iload 5, 2) := by decide +kernel
theorem d_M_compare_58 : decode b_M_compare 58 = .ok (.iconst 3, 1) := by decide +kernel
theorem d_M_compare_59 : decode b_M_compare 59 = .ok (.if_icmp .ge 54, 3) := by decide +kernel
theorem d_M_compare_62 : decode b_M_compare 62 = .ok (.iload 4, 2) := by decide +kernel
theorem d_M_compare_64 : decode b_M_compare 64 = .ok (.ifCond .eq 40, 3) := by decide +kernel
theorem d_M_compare_67 : decode b_M_compare 67 = .ok (.aload_n 0, 1) := by decide +kernel
theorem d_M_compare_68 : decode b_M_compare 68 = .ok (.getfield 22, 3) := by decide +kernel
theorem d_M_compare_71 : decode b_M_compare 71 = .ok (.iconst 3, 1) := by decide +kernel
theorem d_M_compare_72 : decode b_M_compare 72 = .ok (.iload_n 3, 1) := by decide +kernel
theorem d_M_compare_73 : decode b_M_compare 73 = .ok (.imul, 1) := by decide +kernel
theorem d_M_compare_74 : decode b_M_compare 74 = .ok (.iload 5, 2) := by decide +kernel
theorem d_M_compare_76 : decode b_M_compare 76 = .ok (.iadd, 1) := by decide +kernel
theorem d_M_compare_77 : decode b_M_compare 77 = .ok (.iaload, 1) := by decide +kernel
theorem d_M_compare_78 : decode b_M_compare 78 = .ok (.aload_n 0, 1) := by decide +kernel
theorem d_M_compare_79 : decode b_M_compare 79 = .ok (.getfield 22, 3) := by decide +kernel
theorem d_M_compare_82 : decode b_M_compare 82 = .ok (.bipush 72, 2) := by decide +kernel
theorem d_M_compare_84 : decode b_M_compare 84 = .ok (.bipush 18, 2) := by decide +kernel
theorem d_M_compare_86 : decode b_M_compare 86 = .ok (.iload_n 1, 1) := by decide +kernel
theorem d_M_compare_87 : decode b_M_compare 87 = .ok (.imul, 1) := by decide +kernel
theorem d_M_compare_88 : decode b_M_compare 88 = .ok (.iadd, 1) := by decide +kernel
theorem d_M_compare_89 : decode b_M_compare 89 = .ok (.iconst 3, 1) := by decide +kernel
theorem d_M_compare_90 : decode b_M_compare 90 = .ok (.iload_n 3, 1) := by decide +kernel
theorem d_M_compare_91 : decode b_M_compare 91 = .ok (.imul, 1) := by decide +kernel
theorem d_M_compare_92 : decode b_M_compare 92 = .ok (.iadd, 1) := by decide +kernel
theorem d_M_compare_93 : decode b_M_compare 93 = .ok (.iload 5, 2) := by decide +kernel
theorem d_M_compare_95 : decode b_M_compare 95 = .ok (.iadd, 1) := by decide +kernel
theorem d_M_compare_96 : decode b_M_compare 96 = .ok (.iaload, 1) := by decide +kernel
theorem d_M_compare_97 : decode b_M_compare 97 = .ok (.if_icmp .ne 7, 3) := by decide +kernel
theorem d_M_compare_100 : decode b_M_compare 100 = .ok (.iconst 1, 1) := by decide +kernel
theorem d_M_compare_101 : decode b_M_compare 101 = .ok (.goto 4, 3) := by decide +kernel
theorem d_M_compare_104 : decode b_M_compare 104 = .ok (.iconst 0, 1) := by decide +kernel
theorem d_M_compare_105 : decode b_M_compare 105 = .ok (.istore 4, 2) := by decide +kernel
theorem d_M_compare_107 : decode b_M_compare 107 = .ok (.iinc 5 1, 3) := by decide +kernel
theorem d_M_compare_110 : decode b_M_compare 110 = .ok (.goto (-54), 3) := by decide +kernel
theorem d_M_compare_113 : decode b_M_compare 113 = .ok (.iload_n 2, 1) := by decide +kernel
theorem d_M_compare_114 : decode b_M_compare 114 = .ok (.iload 4, 2) := by decide +kernel
theorem d_M_compare_116 : decode b_M_compare 116 = .ok (.ifCond .eq 7, 3) := by decide +kernel
theorem d_M_compare_119 : decode b_M_compare 119 = .ok (.iconst 0, 1) := by decide +kernel
theorem d_M_compare_120 : decode b_M_compare 120 = .ok (.goto 4, 3) := by decide +kernel
theorem d_M_compare_123 : decode b_M_compare 123 = .ok (.iconst 1, 1) := by decide +kernel
theorem d_M_compare_124 : decode b_M_compare 124 = .ok (.iadd, 1) := by decide +kernel
theorem d_M_compare_125 : decode b_M_compare 125 = .ok (.istore_n 2, 1) := by decide +kernel
theorem d_M_compare_126 : decode b_M_compare 126 = .ok (.iinc 3 1, 3) := by decide +kernel
theorem d_M_compare_129 : decode b_M_compare 129 = .ok (.goto (-87), 3) := by decide +kernel
theorem d_M_compare_132 : decode b_M_compare 132 = .ok (.iload_n 2, 1) := by decide +kernel
theorem d_M_compare_133 : decode b_M_compare 133 = .ok (.ireturn, 1) := by decide +kernel
theorem d_M_use_0 : decode b_M_use 0 = .ok (.aload_n 0, 1) := by decide +kernel
theorem d_M_use_1 : decode b_M_use 1 = .ok (.iload_n 1, 1) := by decide +kernel
theorem d_M_use_2 : decode b_M_use 2 = .ok (.iconst 0, 1) := by decide +kernel
theorem d_M_use_3 : decode b_M_use 3 = .ok (.iconst 3, 1) := by decide +kernel
theorem d_M_use_4 : decode b_M_use 4 = .ok (.invokestatic 45, 3) := by decide +kernel
theorem d_M_use_7 : decode b_M_use 7 = .ok (.ifCond .ne 7, 3) := by decide +kernel
theorem d_M_use_10 : decode b_M_use 10 = .ok (.iconst 1, 1) := by decide +kernel
theorem d_M_use_11 : decode b_M_use 11 = .ok (.goto 4, 3) := by decide +kernel
theorem d_M_use_14 : decode b_M_use 14 = .ok (.iconst 0, 1) := by decide +kernel
theorem d_M_use_15 : decode b_M_use 15 = .ok (.aload_n 0, 1) := by decide +kernel
theorem d_M_use_16 : decode b_M_use 16 = .ok (.iload_n 1, 1) := by decide +kernel
theorem d_M_use_17 : decode b_M_use 17 = .ok (.invokevirtual 147, 3) := by decide +kernel
theorem d_M_use_20 : decode b_M_use 20 = .ok (.ifCond .ne 7, 3) := by decide +kernel
theorem d_M_use_23 : decode b_M_use 23 = .ok (.iconst 1, 1) := by decide +kernel
theorem d_M_use_24 : decode b_M_use 24 = .ok (.goto 4, 3) := by decide +kernel
theorem d_M_use_27 : decode b_M_use 27 = .ok (.iconst 0, 1) := by decide +kernel
theorem d_M_use_28 : decode b_M_use 28 = .ok (.iconst 0, 1) := by decide +kernel
theorem d_M_use_29 : decode b_M_use 29 = .ok (.iconst 0, 1) := by decide +kernel
theorem d_M_use_30 : decode b_M_use 30 = .ok (.invokevirtual 68, 3) := by decide +kernel
theorem d_M_use_33 : decode b_M_use 33 = .ok (.ifCond .eq 4, 3) := by decide +kernel
theorem d_M_use_36 : decode b_M_use 36 = .ok (.return_, 1) := by decide +kernel
theorem d_M_use_37 : decode b_M_use 37 = .ok (.aload_n 0, 1) := by decide +kernel
theorem d_M_use_38 : decode b_M_use 38 = .ok (.invokevirtual 93, 3) := by decide +kernel
theorem d_M_use_41 : decode b_M_use 41 = .ok (.aload_n 0, 1) := by decide +kernel
theorem d_M_use_42 : decode b_M_use 42 = .ok (.bipush 72, 2) := by decide +kernel
theorem d_M_use_44 : decode b_M_use 44 = .ok (.bipush 18, 2) := by decide +kernel
theorem d_M_use_46 : decode b_M_use 46 = .ok (.iload_n 1, 1) := by decide +kernel
theorem d_M_use_47 : decode b_M_use 47 = .ok (.imul, 1) := by decide +kernel
theorem d_M_use_48 : decode b_M_use 48 = .ok (.iadd, 1) := by decide +kernel
theorem d_M_use_49 : decode b_M_use 49 = .ok (.iconst 0, 1) := by decide +kernel
theorem d_M_use_50 : decode b_M_use 50 = .ok (.invokevirtual 82, 3) := by decide +kernel
theorem d_M_use_53 : decode b_M_use 53 = .ok (.return_, 1) := by decide +kernel
theorem d_M_undo_0 : decode b_M_undo 0 = .ok (.aload_n 0, 1) := by decide +kernel
theorem d_M_undo_1 : decode b_M_undo 1 = .ok (.aload_n 0, 1) := by decide +kernel
theorem d_M_undo_2 : decode b_M_undo 2 = .ok (.getfield 75, 3) := by decide +kernel
theorem d_M_undo_5 : decode b_M_undo 5 = .ok (.ifCond .ne 7, 3) := by decide +kernel
theorem d_M_undo_8 : decode b_M_undo 8 = .ok (.iconst 1, 1) := by decide +kernel
theorem d_M_undo_9 : decode b_M_undo 9 = .ok (.goto 4, 3) := by decide +kernel
theorem d_M_undo_12 : decode b_M_undo 12 = .ok (.iconst 0, 1) := by decide +kernel
theorem d_M_undo_13 : decode b_M_undo 13 = .ok (.iconst 0, 1) := by decide +kernel
theorem d_M_undo_14 : decode b_M_undo 14 = .ok (.iconst 0, 1) := by decide +kernel
theorem d_M_undo_15 : decode b_M_undo 15 = .ok (.iconst 0, 1) := by decide +kernel
theorem d_M_undo_16 : decode b_M_undo 16 = .ok (.invokevirtual 68, 3) := by decide +kernel
theorem d_M_undo_19 : decode b_M_undo 19 = .ok (.ifCond .eq 4, 3) := by decide +kernel
theorem d_M_undo_22 : decode b_M_undo 22 = .ok (.return_, 1) := by decide +kernel
theorem d_M_undo_23 : decode b_M_undo 23 = .ok (.aload_n 0, 1) := by decide +kernel
theorem d_M_undo_24 : decode b_M_undo 24 = .ok (.bipush 54, 2) := by decide +kernel
theorem d_M_undo_26 : decode b_M_undo 26 = .ok (.iconst 0, 1) := by decide +kernel
theorem d_M_undo_27 : decode b_M_undo 27 = .ok (.invokevirtual 82, 3) := by decide +kernel
theorem d_M_undo_30 : decode b_M_undo 30 = .ok (.aload_n 0, 1) := by decide +kernel
theorem d_M_undo_31 : decode b_M_undo 31 = .ok (.iconst 0, 1) := by decide +kernel
theorem d_M_undo_32 : decode b_M_undo 32 = .ok (.putfield 75, 3) := by decide +kernel
theorem d_M_undo_35 : decode b_M_undo 35 = .ok (.return_, 1) := by decide +kernel
