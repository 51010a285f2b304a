/-! decode rows, written by program -/
theorem d_S_init_0 : decode b_S_init 0 = .ok (.aload_n 0, 1) := by decide +kernel
theorem d_S_init_1 : decode b_S_init 1 = .ok (.invokespecial 3, 3) := by decide +kernel
theorem d_S_init_4 : decode b_S_init 4 = .ok (.aload_n 0, 1) := by decide +kernel
theorem d_S_init_5 : decode b_S_init 5 = .ok (.bipush 32, 2) := by decide +kernel
theorem d_S_init_7 : decode b_S_init 7 = .ok (.newarray .int, 2) := by decide +kernel
theorem d_S_init_9 : decode b_S_init 9 = .ok (.putfield 9, 3) := by decide +kernel
theorem d_S_init_12 : decode b_S_init 12 = .ok (.aload_n 0, 1) := by decide +kernel
theorem d_S_init_13 : decode b_S_init 13 = .ok (.getfield 9, 3) := by decide +kernel
theorem d_S_init_16 : decode b_S_init 16 = .ok (.iconst 0, 1) := by decide +kernel
theorem d_S_init_17 : decode b_S_init 17 = .ok (.invokestatic 13, 3) := by decide +kernel
theorem d_S_init_20 : decode b_S_init 20 = .ok (.aload_n 0, 1) := by decide +kernel
theorem d_S_init_21 : decode b_S_init 21 = .ok (.new 19, 3) := by decide +kernel
theorem d_S_init_24 : decode b_S_init 24 = .ok (.dup, 1) := by decide +kernel
theorem d_S_init_25 : decode b_S_init 25 = .ok (.invokespecial 21, 3) := by decide +kernel
theorem d_S_init_28 : decode b_S_init 28 = .ok (.putfield 22, 3) := by decide +kernel
theorem d_S_init_31 : decode b_S_init 31 = .ok (.aload_n 0, 1) := by decide +kernel
theorem d_S_init_32 : decode b_S_init 32 = .ok (.new 26, 3) := by decide +kernel
theorem d_S_init_35 : decode b_S_init 35 = .ok (.dup, 1) := by decide +kernel
theorem d_S_init_36 : decode b_S_init 36 = .ok (.aload_n 0, 1) := by decide +kernel
theorem d_S_init_37 : decode b_S_init 37 = .ok (.getfield 22, 3) := by decide +kernel
theorem d_S_init_40 : decode b_S_init 40 = .ok (.invokespecial 28, 3) := by decide +kernel
theorem d_S_init_43 : decode b_S_init 43 = .ok (.putfield 31, 3) := by decide +kernel
theorem d_S_init_46 : decode b_S_init 46 = .ok (.aload_n 0, 1) := by decide +kernel
theorem d_S_init_47 : decode b_S_init 47 = .ok (.new 35, 3) := by decide +kernel
theorem d_S_init_50 : decode b_S_init 50 = .ok (.dup, 1) := by decide +kernel
theorem d_S_init_51 : decode b_S_init 51 = .ok (.aload_n 0, 1) := by decide +kernel
theorem d_S_init_52 : decode b_S_init 52 = .ok (.getfield 22, 3) := by decide +kernel
theorem d_S_init_55 : decode b_S_init 55 = .ok (.invokespecial 37, 3) := by decide +kernel
theorem d_S_init_58 : decode b_S_init 58 = .ok (.putfield 38, 3) := by decide +kernel
theorem d_S_init_61 : decode b_S_init 61 = .ok (.return_, 1) := by decide +kernel
theorem d_JA_fill_0 : decode b_JA_fill 0 = .ok (.iconst 0, 1) := by decide +kernel
theorem d_JA_fill_1 : decode b_JA_fill 1 = .ok (.istore_n 2, 1) := by decide +kernel
theorem d_JA_fill_2 : decode b_JA_fill 2 = .ok (.aload_n 0, 1) := by decide +kernel
theorem d_JA_fill_3 : decode b_JA_fill 3 = .ok (.arraylength, 1) := by decide +kernel
theorem d_JA_fill_4 : decode b_JA_fill 4 = .ok (.istore_n 3, 1) := by decide +kernel
theorem d_JA_fill_5 : decode b_JA_fill 5 = .ok (.iload_n 2, 1) := by decide +kernel
theorem d_JA_fill_6 : decode b_JA_fill 6 = .ok (.iload_n 3, 1) := by decide +kernel
theorem d_JA_fill_7 : decode b_JA_fill 7 = .ok (.if_icmp .ge 13, 3) := by decide +kernel
theorem d_JA_fill_10 : decode b_JA_fill 10 = .ok (.aload_n 0, 1) := by decide +kernel
theorem d_JA_fill_11 : decode b_JA_fill 11 = .ok (.iload_n 2, 1) := by decide +kernel
theorem d_JA_fill_12 : decode b_JA_fill 12 = .ok (.iload_n 1, 1) := by decide +kernel
theorem d_JA_fill_13 : decode b_JA_fill 13 = .ok (.iastore, 1) := by decide +kernel
theorem d_JA_fill_14 : decode b_JA_fill 14 = .ok (.iinc 2 1, 3) := by decide +kernel
theorem d_JA_fill_17 : decode b_JA_fill 17 = .ok (.goto (-12), 3) := by decide +kernel
theorem d_JA_fill_20 : decode b_JA_fill 20 = .ok (.return_, 1) := by decide +kernel
theorem d_N_init_0 : decode b_N_init 0 = .ok (.aload_n 0, 1) := by decide +kernel
theorem d_N_init_1 : decode b_N_init 1 = .ok (.invokespecial 3, 3) := by decide +kernel
theorem d_N_init_4 : decode b_N_init 4 = .ok (.aload_n 0, 1) := by decide +kernel
theorem d_N_init_5 : decode b_N_init 5 = .ok (.sipush 5120, 3) := by decide +kernel
theorem d_N_init_8 : decode b_N_init 8 = .ok (.newarray .int, 2) := by decide +kernel
theorem d_N_init_10 : decode b_N_init 10 = .ok (.putfield 11, 3) := by decide +kernel
theorem d_N_init_13 : decode b_N_init 13 = .ok (.aload_n 0, 1) := by decide +kernel
theorem d_N_init_14 : decode b_N_init 14 = .ok (.sipush 1024, 3) := by decide +kernel
theorem d_N_init_17 : decode b_N_init 17 = .ok (.putfield 15, 3) := by decide +kernel
theorem d_N_init_20 : decode b_N_init 20 = .ok (.aload_n 0, 1) := by decide +kernel
theorem d_N_init_21 : decode b_N_init 21 = .ok (.getfield 11, 3) := by decide +kernel
theorem d_N_init_24 : decode b_N_init 24 = .ok (.iconst 0, 1) := by decide +kernel
theorem d_N_init_25 : decode b_N_init 25 = .ok (.bipush 12, 2) := by decide +kernel
theorem d_N_init_27 : decode b_N_init 27 = .ok (.iastore, 1) := by decide +kernel
theorem d_N_init_28 : decode b_N_init 28 = .ok (.aload_n 0, 1) := by decide +kernel
theorem d_N_init_29 : decode b_N_init 29 = .ok (.getfield 11, 3) := by decide +kernel
theorem d_N_init_32 : decode b_N_init 32 = .ok (.iconst 5, 1) := by decide +kernel
theorem d_N_init_33 : decode b_N_init 33 = .ok (.bipush 12, 2) := by decide +kernel
theorem d_N_init_35 : decode b_N_init 35 = .ok (.iastore, 1) := by decide +kernel
theorem d_N_init_36 : decode b_N_init 36 = .ok (.aload_n 0, 1) := by decide +kernel
theorem d_N_init_37 : decode b_N_init 37 = .ok (.iconst 2, 1) := by decide +kernel
theorem d_N_init_38 : decode b_N_init 38 = .ok (.putfield 19, 3) := by decide +kernel
theorem d_N_init_41 : decode b_N_init 41 = .ok (.aload_n 0, 1) := by decide +kernel
theorem d_N_init_42 : decode b_N_init 42 = .ok (.iconst 0, 1) := by decide +kernel
theorem d_N_init_43 : decode b_N_init 43 = .ok (.putfield 22, 3) := by decide +kernel
theorem d_N_init_46 : decode b_N_init 46 = .ok (.aload_n 0, 1) := by decide +kernel
theorem d_N_init_47 : decode b_N_init 47 = .ok (.sipush 768, 3) := by decide +kernel
theorem d_N_init_50 : decode b_N_init 50 = .ok (.newarray .int, 2) := by decide +kernel
theorem d_N_init_52 : decode b_N_init 52 = .ok (.putfield 25, 3) := by decide +kernel
theorem d_N_init_55 : decode b_N_init 55 = .ok (.aload_n 0, 1) := by decide +kernel
theorem d_N_init_56 : decode b_N_init 56 = .ok (.bipush 12, 2) := by decide +kernel
theorem d_N_init_58 : decode b_N_init 58 = .ok (.newarray .int, 2) := by decide +kernel
theorem d_N_init_60 : decode b_N_init 60 = .ok (.putfield 28, 3) := by decide +kernel
theorem d_N_init_63 : decode b_N_init 63 = .ok (.aload_n 0, 1) := by decide +kernel
theorem d_N_init_64 : decode b_N_init 64 = .ok (.bipush 13, 2) := by decide +kernel
theorem d_N_init_66 : decode b_N_init 66 = .ok (.newarray .int, 2) := by decide +kernel
theorem d_N_init_68 : decode b_N_init 68 = .ok (.putfield 31, 3) := by decide +kernel
theorem d_N_init_71 : decode b_N_init 71 = .ok (.aload_n 0, 1) := by decide +kernel
theorem d_N_init_72 : decode b_N_init 72 = .ok (.bipush 13, 2) := by decide +kernel
theorem d_N_init_74 : decode b_N_init 74 = .ok (.newarray .int, 2) := by decide +kernel
theorem d_N_init_76 : decode b_N_init 76 = .ok (.putfield 34, 3) := by decide +kernel
theorem d_N_init_79 : decode b_N_init 79 = .ok (.iconst 0, 1) := by decide +kernel
theorem d_N_init_80 : decode b_N_init 80 = .ok (.istore_n 1, 1) := by decide +kernel
theorem d_N_init_81 : decode b_N_init 81 = .ok (.iload_n 1, 1) := by decide +kernel
theorem d_N_init_82 : decode b_N_init 82 = .ok (.bipush 12, 2) := by decide +kernel
theorem d_N_init_84 : decode b_N_init 84 = .ok (.if_icmp .gt 23, 3) := by decide +kernel
theorem d_N_init_87 : decode b_N_init 87 = .ok (.aload_n 0, 1) := by decide +kernel
theorem d_N_init_88 : decode b_N_init 88 = .ok (.getfield 31, 3) := by decide +kernel
theorem d_N_init_91 : decode b_N_init 91 = .ok (.iload_n 1, 1) := by decide +kernel
theorem d_N_init_92 : decode b_N_init 92 = .ok (.iload_n 1, 1) := by decide +kernel
theorem d_N_init_93 : decode b_N_init 93 = .ok (.iastore, 1) := by decide +kernel
theorem d_N_init_94 : decode b_N_init 94 = .ok (.aload_n 0, 1) := by decide +kernel
theorem d_N_init_95 : decode b_N_init 95 = .ok (.getfield 34, 3) := by decide +kernel
theorem d_N_init_98 : decode b_N_init 98 = .ok (.iload_n 1, 1) := by decide +kernel
theorem d_N_init_99 : decode b_N_init 99 = .ok (.iload_n 1, 1) := by decide +kernel
theorem d_N_init_100 : decode b_N_init 100 = .ok (.iastore, 1) := by decide +kernel
theorem d_N_init_101 : decode b_N_init 101 = .ok (.iinc 1 1, 3) := by decide +kernel
theorem d_N_init_104 : decode b_N_init 104 = .ok (.goto (-23), 3) := by decide +kernel
theorem d_N_init_107 : decode b_N_init 107 = .ok (.aload_n 0, 1) := by decide +kernel
theorem d_N_init_108 : decode b_N_init 108 = .ok (.sipush 1024, 3) := by decide +kernel
theorem d_N_init_111 : decode b_N_init 111 = .ok (.putfield 37, 3) := by decide +kernel
theorem d_N_init_114 : decode b_N_init 114 = .ok (.return_, 1) := by decide +kernel
theorem d_A_init_0 : decode b_A_init 0 = .ok (.aload_n 0, 1) := by decide +kernel
theorem d_A_init_1 : decode b_A_init 1 = .ok (.invokespecial 3, 3) := by decide +kernel
theorem d_A_init_4 : decode b_A_init 4 = .ok (.aload_n 0, 1) := by decide +kernel
theorem d_A_init_5 : decode b_A_init 5 = .ok (.aload_n 1, 1) := by decide +kernel
theorem d_A_init_6 : decode b_A_init 6 = .ok (.putfield 9, 3) := by decide +kernel
theorem d_A_init_9 : decode b_A_init 9 = .ok (.aload_n 0, 1) := by decide +kernel
theorem d_A_init_10 : decode b_A_init 10 = .ok (.new 15, 3) := by decide +kernel
theorem d_A_init_13 : decode b_A_init 13 = .ok (.dup, 1) := by decide +kernel
theorem d_A_init_14 : decode b_A_init 14 = .ok (.invokespecial 17, 3) := by decide +kernel
theorem d_A_init_17 : decode b_A_init 17 = .ok (.putfield 18, 3) := by decide +kernel
theorem d_A_init_20 : decode b_A_init 20 = .ok (.return_, 1) := by decide +kernel
theorem d_M_init_0 : decode b_M_init 0 = .ok (.aload_n 0, 1) := by decide +kernel
theorem d_M_init_1 : decode b_M_init 1 = .ok (.invokespecial 3, 3) := by decide +kernel
theorem d_M_init_4 : decode b_M_init 4 = .ok (.aload_n 0, 1) := by decide +kernel
theorem d_M_init_5 : decode b_M_init 5 = .ok (.sipush 5120, 3) := by decide +kernel
theorem d_M_init_8 : decode b_M_init 8 = .ok (.newarray .int, 2) := by decide +kernel
theorem d_M_init_10 : decode b_M_init 10 = .ok (.putfield 11, 3) := by decide +kernel
theorem d_M_init_13 : decode b_M_init 13 = .ok (.aload_n 0, 1) := by decide +kernel
theorem d_M_init_14 : decode b_M_init 14 = .ok (.iconst 1, 1) := by decide +kernel
theorem d_M_init_15 : decode b_M_init 15 = .ok (.putfield 15, 3) := by decide +kernel
theorem d_M_init_18 : decode b_M_init 18 = .ok (.return_, 1) := by decide +kernel
theorem d_F_init_0 : decode b_F_init 0 = .ok (.aload_n 0, 1) := by decide +kernel
theorem d_F_init_1 : decode b_F_init 1 = .ok (.invokespecial 3, 3) := by decide +kernel
theorem d_F_init_4 : decode b_F_init 4 = .ok (.aload_n 0, 1) := by decide +kernel
theorem d_F_init_5 : decode b_F_init 5 = .ok (.aload_n 1, 1) := by decide +kernel
theorem d_F_init_6 : decode b_F_init 6 = .ok (.putfield 9, 3) := by decide +kernel
theorem d_F_init_9 : decode b_F_init 9 = .ok (.return_, 1) := by decide +kernel
theorem d_S_wrong_0 : decode b_S_wrong 0 = .ok (.aload_n 0, 1) := by decide +kernel
theorem d_S_wrong_1 : decode b_S_wrong 1 = .ok (.getfield 22, 3) := by decide +kernel
theorem d_S_wrong_4 : decode b_S_wrong 4 = .ok (.invokevirtual 97, 3) := by decide +kernel
theorem d_S_wrong_7 : decode b_S_wrong 7 = .ok (.ireturn, 1) := by decide +kernel
theorem d_N_faults_0 : decode b_N_faults 0 = .ok (.iconst 0, 1) := by decide +kernel
theorem d_N_faults_1 : decode b_N_faults 1 = .ok (.istore_n 1, 1) := by decide +kernel
theorem d_N_faults_2 : decode b_N_faults 2 = .ok (.iconst 0, 1) := by decide +kernel
theorem d_N_faults_3 : decode b_N_faults 3 = .ok (.istore_n 2, 1) := by decide +kernel
theorem d_N_faults_4 : decode b_N_faults 4 = .ok (.iload_n 2, 1) := by decide +kernel
theorem d_N_faults_5 : decode b_N_faults 5 = .ok (.aload_n 0, 1) := by decide +kernel
theorem d_N_faults_6 : decode b_N_faults 6 = .ok (.getfield 25, 3) := by decide +kernel
theorem d_N_faults_9 : decode b_N_faults 9 = .ok (.arraylength, 1) := by decide +kernel
theorem d_N_faults_10 : decode b_N_faults 10 = .ok (.if_icmp .ge 64, 3) := by decide +kernel
theorem d_N_faults_13 : decode b_N_faults 13 = .ok (.aload_n 0, 1) := by decide +kernel
theorem d_N_faults_14 : decode b_N_faults 14 = .ok (.getfield 25, 3) := by decide +kernel
theorem d_N_faults_17 : decode b_N_faults 17 = .ok (.iload_n 2, 1) := by decide +kernel
theorem d_N_faults_18 : decode b_N_faults 18 = .ok (.iaload, 1) := by decide +kernel
theorem d_N_faults_19 : decode b_N_faults 19 = .ok (.istore_n 3, 1) := by decide +kernel
theorem d_N_faults_20 : decode b_N_faults 20 = .ok (.iconst 0, 1) := by decide +kernel
theorem d_N_faults_21 : decode b_N_faults 21 = .ok (.istore 4, 2) := by decide +kernel
theorem d_N_faults_23 : decode b_N_faults 23 = .ok (.iload 4, 2) := by decide +kernel
theorem d_N_faults_25 : decode b_N_faults 25 = .ok (.sipush 24800, 3) := by decide +kernel
theorem d_N_faults_28 : decode b_N_faults 28 = .ok (.if_icmp .ge 40, 3) := by decide +kernel
theorem d_N_faults_31 : decode b_N_faults 31 = .ok (.iload_n 3, 1) := by decide +kernel
theorem d_N_faults_32 : decode b_N_faults 32 = .ok (.ifCond .eq 36, 3) := by decide +kernel
theorem d_N_faults_35 : decode b_N_faults 35 = .ok (.aload_n 0, 1) := by decide +kernel
theorem d_N_faults_36 : decode b_N_faults 36 = .ok (.iload_n 3, 1) := by decide +kernel
theorem d_N_faults_37 : decode b_N_faults 37 = .ok (.iload_n 2, 1) := by decide +kernel
theorem d_N_faults_38 : decode b_N_faults 38 = .ok (.invokevirtual 133, 3) := by decide +kernel
theorem d_N_faults_41 : decode b_N_faults 41 = .ok (.ifCond .ne 11, 3) := by decide +kernel
theorem d_N_faults_44 : decode b_N_faults 44 = .ok (.aload_n 0, 1) := by decide +kernel
theorem d_N_faults_45 : decode b_N_faults 45 = .ok (.iload_n 3, 1) := by decide +kernel
theorem d_N_faults_46 : decode b_N_faults 46 = .ok (.invokevirtual 137, 3) := by decide +kernel
theorem d_N_faults_49 : decode b_N_faults 49 = .ok (.ifCond .eq 6, 3) := by decide +kernel
theorem d_N_faults_52 : decode b_N_faults 52 = .ok (.iinc 1 1, 3) := by decide +kernel
theorem d_N_faults_55 : decode b_N_faults 55 = .ok (.aload_n 0, 1) := by decide +kernel
theorem d_N_faults_56 : decode b_N_faults 56 = .ok (.iload_n 3, 1) := by decide +kernel
theorem d_N_faults_57 : decode b_N_faults 57 = .ok (.iconst 3, 1) := by decide +kernel
theorem d_N_faults_58 : decode b_N_faults 58 = .ok (.invokevirtual 46, 3) := by decide +kernel
theorem d_N_faults_61 : decode b_N_faults 61 = .ok (.istore_n 3, 1) := by decide +kernel
theorem d_N_faults_62 : decode b_N_faults 62 = .ok (.iinc 4 1, 3) := by decide +kernel
theorem d_N_faults_65 : decode b_N_faults 65 = .ok (.goto (-42), 3) := by decide +kernel
theorem d_N_faults_68 : decode b_N_faults 68 = .ok (.iinc 2 1, 3) := by decide +kernel
theorem d_N_faults_71 : decode b_N_faults 71 = .ok (.goto (-67), 3) := by decide +kernel
theorem d_N_faults_74 : decode b_N_faults 74 = .ok (.iload_n 1, 1) := by decide +kernel
theorem d_N_faults_75 : decode b_N_faults 75 = .ok (.ireturn, 1) := by decide +kernel
theorem d_N_isMisplaced_0 : decode b_N_isMisplaced 0 = .ok (.aload_n 0, 1) := by decide +kernel
theorem d_N_isMisplaced_1 : decode b_N_isMisplaced 1 = .ok (.iload_n 1, 1) := by decide +kernel
theorem d_N_isMisplaced_2 : decode b_N_isMisplaced 2 = .ok (.iconst 0, 1) := by decide +kernel
theorem d_N_isMisplaced_3 : decode b_N_isMisplaced 3 = .ok (.invokevirtual 46, 3) := by decide +kernel
theorem d_N_isMisplaced_6 : decode b_N_isMisplaced 6 = .ok (.istore_n 3, 1) := by decide +kernel
theorem d_N_isMisplaced_7 : decode b_N_isMisplaced 7 = .ok (.aload_n 0, 1) := by decide +kernel
theorem d_N_isMisplaced_8 : decode b_N_isMisplaced 8 = .ok (.iload_n 1, 1) := by decide +kernel
theorem d_N_isMisplaced_9 : decode b_N_isMisplaced 9 = .ok (.iconst 1, 1) := by decide +kernel
theorem d_N_isMisplaced_10 : decode b_N_isMisplaced 10 = .ok (.invokevirtual 46, 3) := by decide +kernel
theorem d_N_isMisplaced_13 : decode b_N_isMisplaced 13 = .ok (.istore 4, 2) := by decide +kernel
theorem d_N_isMisplaced_15 : decode b_N_isMisplaced 15 = .ok (.aload_n 0, 1) := by decide +kernel
theorem d_N_isMisplaced_16 : decode b_N_isMisplaced 16 = .ok (.iload_n 1, 1) := by decide +kernel
theorem d_N_isMisplaced_17 : decode b_N_isMisplaced 17 = .ok (.iconst 2, 1) := by decide +kernel
theorem d_N_isMisplaced_18 : decode b_N_isMisplaced 18 = .ok (.invokevirtual 46, 3) := by decide +kernel
theorem d_N_isMisplaced_21 : decode b_N_isMisplaced 21 = .ok (.istore 5, 2) := by decide +kernel
theorem d_N_isMisplaced_23 : decode b_N_isMisplaced 23 = .ok (.aload_n 0, 1) := by decide +kernel
theorem d_N_isMisplaced_24 : decode b_N_isMisplaced 24 = .ok (.aload_n 0, 1) := by decide +kernel
theorem d_N_isMisplaced_25 : decode b_N_isMisplaced 25 = .ok (.iload 4, 2) := by decide +kernel
theorem d_N_isMisplaced_27 : decode b_N_isMisplaced 27 = .ok (.invokevirtual 50, 3) := by decide +kernel
theorem d_N_isMisplaced_30 : decode b_N_isMisplaced 30 = .ok (.invokevirtual 54, 3) := by decide +kernel
theorem d_N_isMisplaced_33 : decode b_N_isMisplaced 33 = .ok (.aload_n 0, 1) := by decide +kernel
theorem d_N_isMisplaced_34 : decode b_N_isMisplaced 34 = .ok (.aload_n 0, 1) := by decide +kernel
theorem d_N_isMisplaced_35 : decode b_N_isMisplaced 35 = .ok (.iload 5, 2) := by decide +kernel
theorem d_N_isMisplaced_37 : decode b_N_isMisplaced 37 = .ok (.invokevirtual 50, 3) := by decide +kernel
theorem d_N_isMisplaced_40 : decode b_N_isMisplaced 40 = .ok (.invokevirtual 54, 3) := by decide +kernel
theorem d_N_isMisplaced_43 : decode b_N_isMisplaced 43 = .ok (.invokestatic 57, 3) := by decide +kernel
theorem d_N_isMisplaced_46 : decode b_N_isMisplaced 46 = .ok (.istore 6, 2) := by decide +kernel
theorem d_N_isMisplaced_48 : decode b_N_isMisplaced 48 = .ok (.iload 4, 2) := by decide +kernel
theorem d_N_isMisplaced_50 : decode b_N_isMisplaced 50 = .ok (.iload 5, 2) := by decide +kernel
theorem d_N_isMisplaced_52 : decode b_N_isMisplaced 52 = .ok (.if_icmp .eq 25, 3) := by decide +kernel
theorem d_N_isMisplaced_55 : decode b_N_isMisplaced 55 = .ok (.aload_n 0, 1) := by decide +kernel
theorem d_N_isMisplaced_56 : decode b_N_isMisplaced 56 = .ok (.iload_n 3, 1) := by decide +kernel
theorem d_N_isMisplaced_57 : decode b_N_isMisplaced 57 = .ok (.invokevirtual 54, 3) := by decide +kernel
theorem d_N_isMisplaced_60 : decode b_N_isMisplaced 60 = .ok (.iload 6, 2) := by decide +kernel
theorem d_N_isMisplaced_62 : decode b_N_isMisplaced 62 = .ok (.if_icmp .ge 15, 3) := by decide +kernel
theorem d_N_isMisplaced_65 : decode b_N_isMisplaced 65 = .ok (.iload_n 3, 1) := by decide +kernel
theorem d_N_isMisplaced_66 : decode b_N_isMisplaced 66 = .ok (.iload 4, 2) := by decide +kernel
theorem d_N_isMisplaced_68 : decode b_N_isMisplaced 68 = .ok (.iload 5, 2) := by decide +kernel
theorem d_N_isMisplaced_70 : decode b_N_isMisplaced 70 = .ok (.invokestatic 69, 3) := by decide +kernel
theorem d_N_isMisplaced_73 : decode b_N_isMisplaced 73 = .ok (.iload_n 2, 1) := by decide +kernel
theorem d_N_isMisplaced_74 : decode b_N_isMisplaced 74 = .ok (.if_icmp .eq 7, 3) := by decide +kernel
theorem d_N_isMisplaced_77 : decode b_N_isMisplaced 77 = .ok (.iconst 1, 1) := by decide +kernel
theorem d_N_isMisplaced_78 : decode b_N_isMisplaced 78 = .ok (.goto 4, 3) := by decide +kernel
theorem d_N_isMisplaced_81 : decode b_N_isMisplaced 81 = .ok (.iconst 0, 1) := by decide +kernel
theorem d_N_isMisplaced_82 : decode b_N_isMisplaced 82 = .ok (.ireturn, 1) := by decide +kernel
theorem d_N_get_0 : decode b_N_get 0 = .ok (.iload_n 1, 1) := by decide +kernel
theorem d_N_get_1 : decode b_N_get 1 = .ok (.iconst 5, 1) := by decide +kernel
theorem d_N_get_2 : decode b_N_get 2 = .ok (.imul, 1) := by decide +kernel
theorem d_N_get_3 : decode b_N_get 3 = .ok (.iload_n 2, 1) := by decide +kernel
theorem d_N_get_4 : decode b_N_get 4 = .ok (.iadd, 1) := by decide +kernel
theorem d_N_get_5 : decode b_N_get 5 = .ok (.istore_n 3, 1) := by decide +kernel
theorem d_N_get_6 : decode b_N_get 6 = .ok (.iload_n 3, 1) := by decide +kernel
theorem d_N_get_7 : decode b_N_get 7 = .ok (.ifCond .lt 21, 3) := by decide +kernel
theorem d_N_get_10 : decode b_N_get 10 = .ok (.iload_n 3, 1) := by decide +kernel
theorem d_N_get_11 : decode b_N_get 11 = .ok (.aload_n 0, 1) := by decide +kernel
theorem d_N_get_12 : decode b_N_get 12 = .ok (.getfield 11, 3) := by decide +kernel
theorem d_N_get_15 : decode b_N_get 15 = .ok (.arraylength, 1) := by decide +kernel
theorem d_N_get_16 : decode b_N_get 16 = .ok (.if_icmp .ge 12, 3) := by decide +kernel
theorem d_N_get_19 : decode b_N_get 19 = .ok (.aload_n 0, 1) := by decide +kernel
theorem d_N_get_20 : decode b_N_get 20 = .ok (.getfield 11, 3) := by decide +kernel
theorem d_N_get_23 : decode b_N_get 23 = .ok (.iload_n 3, 1) := by decide +kernel
theorem d_N_get_24 : decode b_N_get 24 = .ok (.iaload, 1) := by decide +kernel
theorem d_N_get_25 : decode b_N_get 25 = .ok (.goto 4, 3) := by decide +kernel
theorem d_N_get_28 : decode b_N_get 28 = .ok (.iconst 0, 1) := by decide +kernel
theorem d_N_get_29 : decode b_N_get 29 = .ok (.ireturn, 1) := by decide +kernel
theorem d_N_askedBy_0 : decode b_N_askedBy 0 = .ok (.aload_n 0, 1) := by decide +kernel
theorem d_N_askedBy_1 : decode b_N_askedBy 1 = .ok (.iload_n 1, 1) := by decide +kernel
theorem d_N_askedBy_2 : decode b_N_askedBy 2 = .ok (.iconst 0, 1) := by decide +kernel
theorem d_N_askedBy_3 : decode b_N_askedBy 3 = .ok (.invokevirtual 46, 3) := by decide +kernel
theorem d_N_askedBy_6 : decode b_N_askedBy 6 = .ok (.ireturn, 1) := by decide +kernel
theorem d_N_levelOf_0 : decode b_N_levelOf 0 = .ok (.iload_n 1, 1) := by decide +kernel
theorem d_N_levelOf_1 : decode b_N_levelOf 1 = .ok (.ifCond .lt 21, 3) := by decide +kernel
theorem d_N_levelOf_4 : decode b_N_levelOf 4 = .ok (.iload_n 1, 1) := by decide +kernel
theorem d_N_levelOf_5 : decode b_N_levelOf 5 = .ok (.aload_n 0, 1) := by decide +kernel
theorem d_N_levelOf_6 : decode b_N_levelOf 6 = .ok (.getfield 31, 3) := by decide +kernel
theorem d_N_levelOf_9 : decode b_N_levelOf 9 = .ok (.arraylength, 1) := by decide +kernel
theorem d_N_levelOf_10 : decode b_N_levelOf 10 = .ok (.if_icmp .ge 12, 3) := by decide +kernel
theorem d_N_levelOf_13 : decode b_N_levelOf 13 = .ok (.aload_n 0, 1) := by decide +kernel
theorem d_N_levelOf_14 : decode b_N_levelOf 14 = .ok (.getfield 31, 3) := by decide +kernel
theorem d_N_levelOf_17 : decode b_N_levelOf 17 = .ok (.iload_n 1, 1) := by decide +kernel
theorem d_N_levelOf_18 : decode b_N_levelOf 18 = .ok (.iaload, 1) := by decide +kernel
theorem d_N_levelOf_19 : decode b_N_levelOf 19 = .ok (.goto 5, 3) := by decide +kernel
theorem d_N_levelOf_22 : decode b_N_levelOf 22 = .ok (.bipush 12, 2) := by decide +kernel
theorem d_N_levelOf_24 : decode b_N_levelOf 24 = .ok (.ireturn, 1) := by decide +kernel
theorem d_JM_min_0 : decode b_JM_min 0 = .ok (.iload_n 0, 1) := by decide +kernel
theorem d_JM_min_1 : decode b_JM_min 1 = .ok (.iload_n 1, 1) := by decide +kernel
theorem d_JM_min_2 : decode b_JM_min 2 = .ok (.if_icmp .gt 7, 3) := by decide +kernel
theorem d_JM_min_5 : decode b_JM_min 5 = .ok (.iload_n 0, 1) := by decide +kernel
theorem d_JM_min_6 : decode b_JM_min 6 = .ok (.goto 4, 3) := by decide +kernel
theorem d_JM_min_9 : decode b_JM_min 9 = .ok (.iload_n 1, 1) := by decide +kernel
theorem d_JM_min_10 : decode b_JM_min 10 = .ok (.ireturn, 1) := by decide +kernel
theorem d_N_chainFor_0 : decode b_N_chainFor 0 = .ok (.iload_n 1, 1) := by decide +kernel
theorem d_N_chainFor_1 : decode b_N_chainFor 1 = .ok (.ldc 85, 2) := by decide +kernel
theorem d_N_chainFor_3 : decode b_N_chainFor 3 = .ok (.imul, 1) := by decide +kernel
theorem d_N_chainFor_4 : decode b_N_chainFor 4 = .ok (.iload_n 2, 1) := by decide +kernel
theorem d_N_chainFor_5 : decode b_N_chainFor 5 = .ok (.ldc 86, 2) := by decide +kernel
theorem d_N_chainFor_7 : decode b_N_chainFor 7 = .ok (.imul, 1) := by decide +kernel
theorem d_N_chainFor_8 : decode b_N_chainFor 8 = .ok (.iadd, 1) := by decide +kernel
theorem d_N_chainFor_9 : decode b_N_chainFor 9 = .ok (.istore_n 3, 1) := by decide +kernel
theorem d_N_chainFor_10 : decode b_N_chainFor 10 = .ok (.iload_n 0, 1) := by decide +kernel
theorem d_N_chainFor_11 : decode b_N_chainFor 11 = .ok (.bipush 64, 2) := by decide +kernel
theorem d_N_chainFor_13 : decode b_N_chainFor 13 = .ok (.imul, 1) := by decide +kernel
theorem d_N_chainFor_14 : decode b_N_chainFor 14 = .ok (.iload_n 3, 1) := by decide +kernel
theorem d_N_chainFor_15 : decode b_N_chainFor 15 = .ok (.bipush 20, 2) := by decide +kernel
theorem d_N_chainFor_17 : decode b_N_chainFor 17 = .ok (.iushr, 1) := by decide +kernel
theorem d_N_chainFor_18 : decode b_N_chainFor 18 = .ok (.bipush 63, 2) := by decide +kernel
theorem d_N_chainFor_20 : decode b_N_chainFor 20 = .ok (.iand, 1) := by decide +kernel
theorem d_N_chainFor_21 : decode b_N_chainFor 21 = .ok (.iadd, 1) := by decide +kernel
theorem d_N_chainFor_22 : decode b_N_chainFor 22 = .ok (.ireturn, 1) := by decide +kernel
theorem d_N_isThereTwice_0 : decode b_N_isThereTwice 0 = .ok (.aload_n 0, 1) := by decide +kernel
theorem d_N_isThereTwice_1 : decode b_N_isThereTwice 1 = .ok (.iload_n 1, 1) := by decide +kernel
theorem d_N_isThereTwice_2 : decode b_N_isThereTwice 2 = .ok (.iconst 3, 1) := by decide +kernel
theorem d_N_isThereTwice_3 : decode b_N_isThereTwice 3 = .ok (.invokevirtual 46, 3) := by decide +kernel
theorem d_N_isThereTwice_6 : decode b_N_isThereTwice 6 = .ok (.istore_n 2, 1) := by decide +kernel
theorem d_N_isThereTwice_7 : decode b_N_isThereTwice 7 = .ok (.iconst 0, 1) := by decide +kernel
theorem d_N_isThereTwice_8 : decode b_N_isThereTwice 8 = .ok (.istore_n 3, 1) := by decide +kernel
theorem d_N_isThereTwice_9 : decode b_N_isThereTwice 9 = .ok (.iload_n 3, 1) := by decide +kernel
theorem d_N_isThereTwice_10 : decode b_N_isThereTwice 10 = .ok (.sipush 24800, 3) := by decide +kernel
theorem d_N_isThereTwice_13 : decode b_N_isThereTwice 13 = .ok (.if_icmp .ge 52, 3) := by decide +kernel
theorem d_N_isThereTwice_16 : decode b_N_isThereTwice 16 = .ok (.iload_n 2, 1) := by decide +kernel
theorem d_N_isThereTwice_17 : decode b_N_isThereTwice 17 = .ok (.ifCond .eq 48, 3) := by decide +kernel
theorem d_N_isThereTwice_20 : decode b_N_isThereTwice 20 = .ok (.aload_n 0, 1) := by decide +kernel
theorem d_N_isThereTwice_21 : decode b_N_isThereTwice 21 = .ok (.iload_n 2, 1) := by decide +kernel
theorem d_N_isThereTwice_22 : decode b_N_isThereTwice 22 = .ok (.iconst 1, 1) := by decide +kernel
theorem d_N_isThereTwice_23 : decode b_N_isThereTwice 23 = .ok (.invokevirtual 46, 3) := by decide +kernel
theorem d_N_isThereTwice_26 : decode b_N_isThereTwice 26 = .ok (.aload_n 0, 1) := by decide +kernel
theorem d_N_isThereTwice_27 : decode b_N_isThereTwice 27 = .ok (.iload_n 1, 1) := by decide +kernel
theorem d_N_isThereTwice_28 : decode b_N_isThereTwice 28 = .ok (.iconst 1, 1) := by decide +kernel
theorem d_N_isThereTwice_29 : decode b_N_isThereTwice 29 = .ok (.invokevirtual 46, 3) := by decide +kernel
theorem d_N_isThereTwice_32 : decode b_N_isThereTwice 32 = .ok (.if_icmp .ne 20, 3) := by decide +kernel
theorem d_N_isThereTwice_35 : decode b_N_isThereTwice 35 = .ok (.aload_n 0, 1) := by decide +kernel
theorem d_N_isThereTwice_36 : decode b_N_isThereTwice 36 = .ok (.iload_n 2, 1) := by decide +kernel
theorem d_N_isThereTwice_37 : decode b_N_isThereTwice 37 = .ok (.iconst 2, 1) := by decide +kernel
theorem d_N_isThereTwice_38 : decode b_N_isThereTwice 38 = .ok (.invokevirtual 46, 3) := by decide +kernel
theorem d_N_isThereTwice_41 : decode b_N_isThereTwice 41 = .ok (.aload_n 0, 1) := by decide +kernel
theorem d_N_isThereTwice_42 : decode b_N_isThereTwice 42 = .ok (.iload_n 1, 1) := by decide +kernel
theorem d_N_isThereTwice_43 : decode b_N_isThereTwice 43 = .ok (.iconst 2, 1) := by decide +kernel
theorem d_N_isThereTwice_44 : decode b_N_isThereTwice 44 = .ok (.invokevirtual 46, 3) := by decide +kernel
theorem d_N_isThereTwice_47 : decode b_N_isThereTwice 47 = .ok (.if_icmp .ne 5, 3) := by decide +kernel
theorem d_N_isThereTwice_50 : decode b_N_isThereTwice 50 = .ok (.iconst 1, 1) := by decide +kernel
theorem d_N_isThereTwice_51 : decode b_N_isThereTwice 51 = .ok (.ireturn, 1) := by decide +kernel
theorem d_N_isThereTwice_52 : decode b_N_isThereTwice 52 = .ok (.aload_n 0, 1) := by decide +kernel
theorem d_N_isThereTwice_53 : decode b_N_isThereTwice 53 = .ok (.iload_n 2, 1) := by decide +kernel
theorem d_N_isThereTwice_54 : decode b_N_isThereTwice 54 = .ok (.iconst 3, 1) := by decide +kernel
theorem d_N_isThereTwice_55 : decode b_N_isThereTwice 55 = .ok (.invokevirtual 46, 3) := by decide +kernel
theorem d_N_isThereTwice_58 : decode b_N_isThereTwice 58 = .ok (.istore_n 2, 1) := by decide +kernel
theorem d_N_isThereTwice_59 : decode b_N_isThereTwice 59 = .ok (.iinc 3 1, 3) := by decide +kernel
theorem d_N_isThereTwice_62 : decode b_N_isThereTwice 62 = .ok (.goto (-53), 3) := by decide +kernel
theorem d_N_isThereTwice_65 : decode b_N_isThereTwice 65 = .ok (.iconst 0, 1) := by decide +kernel
theorem d_N_isThereTwice_66 : decode b_N_isThereTwice 66 = .ok (.ireturn, 1) := by decide +kernel
theorem d_S_constant_0 : decode b_S_constant 0 = .ok (.iload_n 1, 1) := by decide +kernel
theorem d_S_constant_1 : decode b_S_constant 1 = .ok (.invokestatic 42, 3) := by decide +kernel
theorem d_S_constant_4 : decode b_S_constant 4 = .ok (.aload_n 0, 1) := by decide +kernel
theorem d_S_constant_5 : decode b_S_constant 5 = .ok (.iload_n 1, 1) := by decide +kernel
theorem d_S_constant_6 : decode b_S_constant 6 = .ok (.iload_n 2, 1) := by decide +kernel
theorem d_S_constant_7 : decode b_S_constant 7 = .ok (.ifCond .eq 7, 3) := by decide +kernel
theorem d_S_constant_10 : decode b_S_constant 10 = .ok (.iconst 1, 1) := by decide +kernel
theorem d_S_constant_11 : decode b_S_constant 11 = .ok (.goto 4, 3) := by decide +kernel
theorem d_S_constant_14 : decode b_S_constant 14 = .ok (.iconst 0, 1) := by decide +kernel
theorem d_S_constant_15 : decode b_S_constant 15 = .ok (.invokevirtual 46, 3) := by decide +kernel
theorem d_S_constant_18 : decode b_S_constant 18 = .ok (.pop, 1) := by decide +kernel
theorem d_S_constant_19 : decode b_S_constant 19 = .ok (.return_, 1) := by decide +kernel
theorem d_S_requireSlot_0 : decode b_S_requireSlot 0 = .ok (.iload_n 0, 1) := by decide +kernel
theorem d_S_requireSlot_1 : decode b_S_requireSlot 1 = .ok (.bipush 32, 2) := by decide +kernel
theorem d_S_requireSlot_3 : decode b_S_requireSlot 3 = .ok (.invokestatic 50, 3) := by decide +kernel
theorem d_S_requireSlot_6 : decode b_S_requireSlot 6 = .ok (.return_, 1) := by decide +kernel
theorem d_S_requireBelow_0 : decode b_S_requireBelow 0 = .ok (.iload_n 0, 1) := by decide +kernel
theorem d_S_requireBelow_1 : decode b_S_requireBelow 1 = .ok (.ifCond .lt 8, 3) := by decide +kernel
theorem d_S_requireBelow_4 : decode b_S_requireBelow 4 = .ok (.iload_n 0, 1) := by decide +kernel
theorem d_S_requireBelow_5 : decode b_S_requireBelow 5 = .ok (.iload_n 1, 1) := by decide +kernel
theorem d_S_requireBelow_6 : decode b_S_requireBelow 6 = .ok (.if_icmp .lt 13, 3) := by decide +kernel
theorem d_S_requireBelow_9 : decode b_S_requireBelow 9 = .ok (.new 103, 3) := by decide +kernel
theorem d_S_requireBelow_12 : decode b_S_requireBelow 12 = .ok (.dup, 1) := by decide +kernel
theorem d_S_requireBelow_13 : decode b_S_requireBelow 13 = .ok (.ldc 105, 2) := by decide +kernel
theorem d_S_requireBelow_15 : decode b_S_requireBelow 15 = .ok (.invokespecial 107, 3) := by decide +kernel
theorem d_S_requireBelow_18 : decode b_S_requireBelow 18 = .ok (.athrow, 1) := by decide +kernel
theorem d_S_requireBelow_19 : decode b_S_requireBelow 19 = .ok (.return_, 1) := by decide +kernel
theorem d_S_put_0 : decode b_S_put 0 = .ok (.aload_n 0, 1) := by decide +kernel
theorem d_S_put_1 : decode b_S_put 1 = .ok (.getfield 9, 3) := by decide +kernel
theorem d_S_put_4 : decode b_S_put 4 = .ok (.iload_n 1, 1) := by decide +kernel
theorem d_S_put_5 : decode b_S_put 5 = .ok (.iaload, 1) := by decide +kernel
theorem d_S_put_6 : decode b_S_put 6 = .ok (.istore_n 3, 1) := by decide +kernel
theorem d_S_put_7 : decode b_S_put 7 = .ok (.aload_n 0, 1) := by decide +kernel
theorem d_S_put_8 : decode b_S_put 8 = .ok (.getfield 22, 3) := by decide +kernel
theorem d_S_put_11 : decode b_S_put 11 = .ok (.iload_n 2, 1) := by decide +kernel
theorem d_S_put_12 : decode b_S_put 12 = .ok (.iconst 1, 1) := by decide +kernel
theorem d_S_put_13 : decode b_S_put 13 = .ok (.invokevirtual 100, 3) := by decide +kernel
theorem d_S_put_16 : decode b_S_put 16 = .ok (.aload_n 0, 1) := by decide +kernel
theorem d_S_put_17 : decode b_S_put 17 = .ok (.getfield 22, 3) := by decide +kernel
theorem d_S_put_20 : decode b_S_put 20 = .ok (.iload_n 3, 1) := by decide +kernel
theorem d_S_put_21 : decode b_S_put 21 = .ok (.iconst (-1), 1) := by decide +kernel
theorem d_S_put_22 : decode b_S_put 22 = .ok (.invokevirtual 100, 3) := by decide +kernel
theorem d_S_put_25 : decode b_S_put 25 = .ok (.aload_n 0, 1) := by decide +kernel
theorem d_S_put_26 : decode b_S_put 26 = .ok (.getfield 9, 3) := by decide +kernel
theorem d_S_put_29 : decode b_S_put 29 = .ok (.iload_n 1, 1) := by decide +kernel
theorem d_S_put_30 : decode b_S_put 30 = .ok (.iload_n 2, 1) := by decide +kernel
theorem d_S_put_31 : decode b_S_put 31 = .ok (.iastore, 1) := by decide +kernel
theorem d_S_put_32 : decode b_S_put 32 = .ok (.iload_n 2, 1) := by decide +kernel
theorem d_S_put_33 : decode b_S_put 33 = .ok (.iload_n 3, 1) := by decide +kernel
theorem d_S_put_34 : decode b_S_put 34 = .ok (.if_icmp .eq 7, 3) := by decide +kernel
theorem d_S_put_37 : decode b_S_put 37 = .ok (.iconst 1, 1) := by decide +kernel
theorem d_S_put_38 : decode b_S_put 38 = .ok (.goto 4, 3) := by decide +kernel
theorem d_S_put_41 : decode b_S_put 41 = .ok (.iconst 0, 1) := by decide +kernel
theorem d_S_put_42 : decode b_S_put 42 = .ok (.ireturn, 1) := by decide +kernel
theorem d_N_refer_0 : decode b_N_refer 0 = .ok (.aload_n 0, 1) := by decide +kernel
theorem d_N_refer_1 : decode b_N_refer 1 = .ok (.iload_n 1, 1) := by decide +kernel
theorem d_N_refer_2 : decode b_N_refer 2 = .ok (.iconst 4, 1) := by decide +kernel
theorem d_N_refer_3 : decode b_N_refer 3 = .ok (.aload_n 0, 1) := by decide +kernel
theorem d_N_refer_4 : decode b_N_refer 4 = .ok (.iload_n 1, 1) := by decide +kernel
theorem d_N_refer_5 : decode b_N_refer 5 = .ok (.iconst 4, 1) := by decide +kernel
theorem d_N_refer_6 : decode b_N_refer 6 = .ok (.invokevirtual 46, 3) := by decide +kernel
theorem d_N_refer_9 : decode b_N_refer 9 = .ok (.iload_n 2, 1) := by decide +kernel
theorem d_N_refer_10 : decode b_N_refer 10 = .ok (.iadd, 1) := by decide +kernel
theorem d_N_refer_11 : decode b_N_refer 11 = .ok (.invokevirtual 65, 3) := by decide +kernel
theorem d_N_refer_14 : decode b_N_refer 14 = .ok (.return_, 1) := by decide +kernel
theorem d_N_set_0 : decode b_N_set 0 = .ok (.iload_n 1, 1) := by decide +kernel
theorem d_N_set_1 : decode b_N_set 1 = .ok (.iconst 5, 1) := by decide +kernel
theorem d_N_set_2 : decode b_N_set 2 = .ok (.imul, 1) := by decide +kernel
theorem d_N_set_3 : decode b_N_set 3 = .ok (.iload_n 2, 1) := by decide +kernel
theorem d_N_set_4 : decode b_N_set 4 = .ok (.iadd, 1) := by decide +kernel
theorem d_N_set_5 : decode b_N_set 5 = .ok (.istore 4, 2) := by decide +kernel
theorem d_N_set_7 : decode b_N_set 7 = .ok (.iload 4, 2) := by decide +kernel
theorem d_N_set_9 : decode b_N_set 9 = .ok (.ifCond .lt 21, 3) := by decide +kernel
theorem d_N_set_12 : decode b_N_set 12 = .ok (.iload 4, 2) := by decide +kernel
theorem d_N_set_14 : decode b_N_set 14 = .ok (.aload_n 0, 1) := by decide +kernel
theorem d_N_set_15 : decode b_N_set 15 = .ok (.getfield 11, 3) := by decide +kernel
theorem d_N_set_18 : decode b_N_set 18 = .ok (.arraylength, 1) := by decide +kernel
theorem d_N_set_19 : decode b_N_set 19 = .ok (.if_icmp .ge 11, 3) := by decide +kernel
theorem d_N_set_22 : decode b_N_set 22 = .ok (.aload_n 0, 1) := by decide +kernel
theorem d_N_set_23 : decode b_N_set 23 = .ok (.getfield 11, 3) := by decide +kernel
theorem d_N_set_26 : decode b_N_set 26 = .ok (.iload 4, 2) := by decide +kernel
theorem d_N_set_28 : decode b_N_set 28 = .ok (.iload_n 3, 1) := by decide +kernel
theorem d_N_set_29 : decode b_N_set 29 = .ok (.iastore, 1) := by decide +kernel
theorem d_N_set_30 : decode b_N_set 30 = .ok (.return_, 1) := by decide +kernel
theorem d_S_variable_0 : decode b_S_variable 0 = .ok (.iload_n 1, 1) := by decide +kernel
theorem d_S_variable_1 : decode b_S_variable 1 = .ok (.invokestatic 42, 3) := by decide +kernel
theorem d_S_variable_4 : decode b_S_variable 4 = .ok (.iload_n 2, 1) := by decide +kernel
theorem d_S_variable_5 : decode b_S_variable 5 = .ok (.bipush 12, 2) := by decide +kernel
theorem d_S_variable_7 : decode b_S_variable 7 = .ok (.invokestatic 50, 3) := by decide +kernel
theorem d_S_variable_10 : decode b_S_variable 10 = .ok (.aload_n 0, 1) := by decide +kernel
theorem d_S_variable_11 : decode b_S_variable 11 = .ok (.iload_n 1, 1) := by decide +kernel
theorem d_S_variable_12 : decode b_S_variable 12 = .ok (.aload_n 0, 1) := by decide +kernel
theorem d_S_variable_13 : decode b_S_variable 13 = .ok (.getfield 31, 3) := by decide +kernel
theorem d_S_variable_16 : decode b_S_variable 16 = .ok (.iload_n 2, 1) := by decide +kernel
theorem d_S_variable_17 : decode b_S_variable 17 = .ok (.invokevirtual 54, 3) := by decide +kernel
theorem d_S_variable_20 : decode b_S_variable 20 = .ok (.invokevirtual 46, 3) := by decide +kernel
theorem d_S_variable_23 : decode b_S_variable 23 = .ok (.pop, 1) := by decide +kernel
theorem d_S_variable_24 : decode b_S_variable 24 = .ok (.return_, 1) := by decide +kernel
theorem d_A_truthOf_0 : decode b_A_truthOf 0 = .ok (.aload_n 0, 1) := by decide +kernel
theorem d_A_truthOf_1 : decode b_A_truthOf 1 = .ok (.iconst 1, 1) := by decide +kernel
theorem d_A_truthOf_2 : decode b_A_truthOf 2 = .ok (.invokevirtual 31, 3) := by decide +kernel
theorem d_A_truthOf_5 : decode b_A_truthOf 5 = .ok (.aload_n 0, 1) := by decide +kernel
theorem d_A_truthOf_6 : decode b_A_truthOf 6 = .ok (.getfield 9, 3) := by decide +kernel
theorem d_A_truthOf_9 : decode b_A_truthOf 9 = .ok (.iload_n 1, 1) := by decide +kernel
theorem d_A_truthOf_10 : decode b_A_truthOf 10 = .ok (.iconst 0, 1) := by decide +kernel
theorem d_A_truthOf_11 : decode b_A_truthOf 11 = .ok (.iconst 1, 1) := by decide +kernel
theorem d_A_truthOf_12 : decode b_A_truthOf 12 = .ok (.invokevirtual 34, 3) := by decide +kernel
theorem d_A_truthOf_15 : decode b_A_truthOf 15 = .ok (.ireturn, 1) := by decide +kernel
theorem d_A_begin_0 : decode b_A_begin 0 = .ok (.aload_n 0, 1) := by decide +kernel
theorem d_A_begin_1 : decode b_A_begin 1 = .ok (.getfield 9, 3) := by decide +kernel
theorem d_A_begin_4 : decode b_A_begin 4 = .ok (.iload_n 1, 1) := by decide +kernel
theorem d_A_begin_5 : decode b_A_begin 5 = .ok (.invokevirtual 22, 3) := by decide +kernel
theorem d_A_begin_8 : decode b_A_begin 8 = .ok (.aload_n 0, 1) := by decide +kernel
theorem d_A_begin_9 : decode b_A_begin 9 = .ok (.getfield 18, 3) := by decide +kernel
theorem d_A_begin_12 : decode b_A_begin 12 = .ok (.invokevirtual 28, 3) := by decide +kernel
theorem d_A_begin_15 : decode b_A_begin 15 = .ok (.return_, 1) := by decide +kernel
theorem d_N_makeRoom_0 : decode b_N_makeRoom 0 = .ok (.aload_n 0, 1) := by decide +kernel
theorem d_N_makeRoom_1 : decode b_N_makeRoom 1 = .ok (.getfield 40, 3) := by decide +kernel
theorem d_N_makeRoom_4 : decode b_N_makeRoom 4 = .ok (.aload_n 0, 1) := by decide +kernel
theorem d_N_makeRoom_5 : decode b_N_makeRoom 5 = .ok (.getfield 37, 3) := by decide +kernel
theorem d_N_makeRoom_8 : decode b_N_makeRoom 8 = .ok (.if_icmp .le 29, 3) := by decide +kernel
theorem d_N_makeRoom_11 : decode b_N_makeRoom 11 = .ok (.aload_n 0, 1) := by decide +kernel
theorem d_N_makeRoom_12 : decode b_N_makeRoom 12 = .ok (.invokevirtual 87, 3) := by decide +kernel
theorem d_N_makeRoom_15 : decode b_N_makeRoom 15 = .ok (.aload_n 0, 1) := by decide +kernel
theorem d_N_makeRoom_16 : decode b_N_makeRoom 16 = .ok (.iconst 2, 1) := by decide +kernel
theorem d_N_makeRoom_17 : decode b_N_makeRoom 17 = .ok (.aload_n 0, 1) := by decide +kernel
theorem d_N_makeRoom_18 : decode b_N_makeRoom 18 = .ok (.getfield 40, 3) := by decide +kernel
theorem d_N_makeRoom_21 : decode b_N_makeRoom 21 = .ok (.imul, 1) := by decide +kernel
theorem d_N_makeRoom_22 : decode b_N_makeRoom 22 = .ok (.sipush 1024, 3) := by decide +kernel
theorem d_N_makeRoom_25 : decode b_N_makeRoom 25 = .ok (.invokestatic 90, 3) := by decide +kernel
theorem d_N_makeRoom_28 : decode b_N_makeRoom 28 = .ok (.sipush 21475, 3) := by decide +kernel
theorem d_N_makeRoom_31 : decode b_N_makeRoom 31 = .ok (.invokestatic 57, 3) := by decide +kernel
theorem d_N_makeRoom_34 : decode b_N_makeRoom 34 = .ok (.putfield 37, 3) := by decide +kernel
theorem d_N_makeRoom_37 : decode b_N_makeRoom 37 = .ok (.aload_n 0, 1) := by decide +kernel
theorem d_N_makeRoom_38 : decode b_N_makeRoom 38 = .ok (.aload_n 0, 1) := by decide +kernel
theorem d_N_makeRoom_39 : decode b_N_makeRoom 39 = .ok (.getfield 40, 3) := by decide +kernel
theorem d_N_makeRoom_42 : decode b_N_makeRoom 42 = .ok (.iload_n 1, 1) := by decide +kernel
theorem d_N_makeRoom_43 : decode b_N_makeRoom 43 = .ok (.iadd, 1) := by decide +kernel
theorem d_N_makeRoom_44 : decode b_N_makeRoom 44 = .ok (.invokevirtual 93, 3) := by decide +kernel
theorem d_N_makeRoom_47 : decode b_N_makeRoom 47 = .ok (.return_, 1) := by decide +kernel
theorem d_N_collect_0 : decode b_N_collect 0 = .ok (.iconst 0, 1) := by decide +kernel
theorem d_N_collect_1 : decode b_N_collect 1 = .ok (.istore_n 1, 1) := by decide +kernel
theorem d_N_collect_2 : decode b_N_collect 2 = .ok (.iload_n 1, 1) := by decide +kernel
theorem d_N_collect_3 : decode b_N_collect 3 = .ok (.bipush 12, 2) := by decide +kernel
theorem d_N_collect_5 : decode b_N_collect 5 = .ok (.if_icmp .ge 63, 3) := by decide +kernel
theorem d_N_collect_8 : decode b_N_collect 8 = .ok (.aload_n 0, 1) := by decide +kernel
theorem d_N_collect_9 : decode b_N_collect 9 = .ok (.iload_n 1, 1) := by decide +kernel
theorem d_N_collect_10 : decode b_N_collect 10 = .ok (.invokevirtual 62, 3) := by decide +kernel
theorem d_N_collect_13 : decode b_N_collect 13 = .ok (.bipush 64, 2) := by decide +kernel
theorem d_N_collect_15 : decode b_N_collect 15 = .ok (.imul, 1) := by decide +kernel
theorem d_N_collect_16 : decode b_N_collect 16 = .ok (.istore_n 2, 1) := by decide +kernel
theorem d_N_collect_17 : decode b_N_collect 17 = .ok (.iload_n 2, 1) := by decide +kernel
theorem d_N_collect_18 : decode b_N_collect 18 = .ok (.istore_n 3, 1) := by decide +kernel
theorem d_N_collect_19 : decode b_N_collect 19 = .ok (.iload_n 3, 1) := by decide +kernel
theorem d_N_collect_20 : decode b_N_collect 20 = .ok (.iload_n 2, 1) := by decide +kernel
theorem d_N_collect_21 : decode b_N_collect 21 = .ok (.bipush 64, 2) := by decide +kernel
theorem d_N_collect_23 : decode b_N_collect 23 = .ok (.iadd, 1) := by decide +kernel
theorem d_N_collect_24 : decode b_N_collect 24 = .ok (.if_icmp .ge 38, 3) := by decide +kernel
theorem d_N_collect_27 : decode b_N_collect 27 = .ok (.iload_n 3, 1) := by decide +kernel
theorem d_N_collect_28 : decode b_N_collect 28 = .ok (.ifCond .lt 28, 3) := by decide +kernel
theorem d_N_collect_31 : decode b_N_collect 31 = .ok (.iload_n 3, 1) := by decide +kernel
theorem d_N_collect_32 : decode b_N_collect 32 = .ok (.aload_n 0, 1) := by decide +kernel
theorem d_N_collect_33 : decode b_N_collect 33 = .ok (.getfield 25, 3) := by decide +kernel
theorem d_N_collect_36 : decode b_N_collect 36 = .ok (.arraylength, 1) := by decide +kernel
theorem d_N_collect_37 : decode b_N_collect 37 = .ok (.if_icmp .ge 19, 3) := by decide +kernel
theorem d_N_collect_40 : decode b_N_collect 40 = .ok (.aload_n 0, 1) := by decide +kernel
theorem d_N_collect_41 : decode b_N_collect 41 = .ok (.getfield 25, 3) := by decide +kernel
theorem d_N_collect_44 : decode b_N_collect 44 = .ok (.iload_n 3, 1) := by decide +kernel
theorem d_N_collect_45 : decode b_N_collect 45 = .ok (.aload_n 0, 1) := by decide +kernel
theorem d_N_collect_46 : decode b_N_collect 46 = .ok (.aload_n 0, 1) := by decide +kernel
theorem d_N_collect_47 : decode b_N_collect 47 = .ok (.getfield 25, 3) := by decide +kernel
theorem d_N_collect_50 : decode b_N_collect 50 = .ok (.iload_n 3, 1) := by decide +kernel
theorem d_N_collect_51 : decode b_N_collect 51 = .ok (.iaload, 1) := by decide +kernel
theorem d_N_collect_52 : decode b_N_collect 52 = .ok (.invokevirtual 103, 3) := by decide +kernel
theorem d_N_collect_55 : decode b_N_collect 55 = .ok (.iastore, 1) := by decide +kernel
theorem d_N_collect_56 : decode b_N_collect 56 = .ok (.iinc 3 1, 3) := by decide +kernel
theorem d_N_collect_59 : decode b_N_collect 59 = .ok (.goto (-40), 3) := by decide +kernel
theorem d_N_collect_62 : decode b_N_collect 62 = .ok (.iinc 1 1, 3) := by decide +kernel
theorem d_N_collect_65 : decode b_N_collect 65 = .ok (.goto (-63), 3) := by decide +kernel
theorem d_N_collect_68 : decode b_N_collect 68 = .ok (.return_, 1) := by decide +kernel
theorem d_N_variableAt_0 : decode b_N_variableAt 0 = .ok (.iload_n 1, 1) := by decide +kernel
theorem d_N_variableAt_1 : decode b_N_variableAt 1 = .ok (.ifCond .lt 21, 3) := by decide +kernel
theorem d_N_variableAt_4 : decode b_N_variableAt 4 = .ok (.iload_n 1, 1) := by decide +kernel
theorem d_N_variableAt_5 : decode b_N_variableAt 5 = .ok (.aload_n 0, 1) := by decide +kernel
theorem d_N_variableAt_6 : decode b_N_variableAt 6 = .ok (.getfield 34, 3) := by decide +kernel
theorem d_N_variableAt_9 : decode b_N_variableAt 9 = .ok (.arraylength, 1) := by decide +kernel
theorem d_N_variableAt_10 : decode b_N_variableAt 10 = .ok (.if_icmp .ge 12, 3) := by decide +kernel
theorem d_N_variableAt_13 : decode b_N_variableAt 13 = .ok (.aload_n 0, 1) := by decide +kernel
theorem d_N_variableAt_14 : decode b_N_variableAt 14 = .ok (.getfield 34, 3) := by decide +kernel
theorem d_N_variableAt_17 : decode b_N_variableAt 17 = .ok (.iload_n 1, 1) := by decide +kernel
theorem d_N_variableAt_18 : decode b_N_variableAt 18 = .ok (.iaload, 1) := by decide +kernel
theorem d_N_variableAt_19 : decode b_N_variableAt 19 = .ok (.goto 5, 3) := by decide +kernel
theorem d_N_variableAt_22 : decode b_N_variableAt 22 = .ok (.bipush 12, 2) := by decide +kernel
theorem d_N_variableAt_24 : decode b_N_variableAt 24 = .ok (.ireturn, 1) := by decide +kernel
theorem d_N_needed_0 : decode b_N_needed 0 = .ok (.iconst 0, 1) := by decide +kernel
theorem d_N_needed_1 : decode b_N_needed 1 = .ok (.istore_n 2, 1) := by decide +kernel
theorem d_N_needed_2 : decode b_N_needed 2 = .ok (.iload_n 1, 1) := by decide +kernel
theorem d_N_needed_3 : decode b_N_needed 3 = .ok (.istore_n 3, 1) := by decide +kernel
theorem d_N_needed_4 : decode b_N_needed 4 = .ok (.iconst 0, 1) := by decide +kernel
theorem d_N_needed_5 : decode b_N_needed 5 = .ok (.istore 4, 2) := by decide +kernel
theorem d_N_needed_7 : decode b_N_needed 7 = .ok (.iload 4, 2) := by decide +kernel
theorem d_N_needed_9 : decode b_N_needed 9 = .ok (.sipush 24800, 3) := by decide +kernel
theorem d_N_needed_12 : decode b_N_needed 12 = .ok (.if_icmp .ge 106, 3) := by decide +kernel
theorem d_N_needed_15 : decode b_N_needed 15 = .ok (.iload_n 3, 1) := by decide +kernel
theorem d_N_needed_16 : decode b_N_needed 16 = .ok (.ifCond .eq 102, 3) := by decide +kernel
theorem d_N_needed_19 : decode b_N_needed 19 = .ok (.aload_n 0, 1) := by decide +kernel
theorem d_N_needed_20 : decode b_N_needed 20 = .ok (.iload_n 3, 1) := by decide +kernel
theorem d_N_needed_21 : decode b_N_needed 21 = .ok (.iconst 3, 1) := by decide +kernel
theorem d_N_needed_22 : decode b_N_needed 22 = .ok (.invokevirtual 46, 3) := by decide +kernel
theorem d_N_needed_25 : decode b_N_needed 25 = .ok (.istore 5, 2) := by decide +kernel
theorem d_N_needed_27 : decode b_N_needed 27 = .ok (.aload_n 0, 1) := by decide +kernel
theorem d_N_needed_28 : decode b_N_needed 28 = .ok (.iload_n 3, 1) := by decide +kernel
theorem d_N_needed_29 : decode b_N_needed 29 = .ok (.iconst 4, 1) := by decide +kernel
theorem d_N_needed_30 : decode b_N_needed 30 = .ok (.invokevirtual 46, 3) := by decide +kernel
theorem d_N_needed_33 : decode b_N_needed 33 = .ok (.ifCond .le 15, 3) := by decide +kernel
theorem d_N_needed_36 : decode b_N_needed 36 = .ok (.aload_n 0, 1) := by decide +kernel
theorem d_N_needed_37 : decode b_N_needed 37 = .ok (.iload_n 3, 1) := by decide +kernel
theorem d_N_needed_38 : decode b_N_needed 38 = .ok (.iconst 3, 1) := by decide +kernel
theorem d_N_needed_39 : decode b_N_needed 39 = .ok (.iload_n 2, 1) := by decide +kernel
theorem d_N_needed_40 : decode b_N_needed 40 = .ok (.invokevirtual 65, 3) := by decide +kernel
theorem d_N_needed_43 : decode b_N_needed 43 = .ok (.iload_n 3, 1) := by decide +kernel
theorem d_N_needed_44 : decode b_N_needed 44 = .ok (.istore_n 2, 1) := by decide +kernel
theorem d_N_needed_45 : decode b_N_needed 45 = .ok (.goto 64, 3) := by decide +kernel
theorem d_N_needed_48 : decode b_N_needed 48 = .ok (.aload_n 0, 1) := by decide +kernel
theorem d_N_needed_49 : decode b_N_needed 49 = .ok (.iload_n 3, 1) := by decide +kernel
theorem d_N_needed_50 : decode b_N_needed 50 = .ok (.iconst 0, 1) := by decide +kernel
theorem d_N_needed_51 : decode b_N_needed 51 = .ok (.invokevirtual 46, 3) := by decide +kernel
theorem d_N_needed_54 : decode b_N_needed 54 = .ok (.istore 6, 2) := by decide +kernel
theorem d_N_needed_56 : decode b_N_needed 56 = .ok (.iload 6, 2) := by decide +kernel
theorem d_N_needed_58 : decode b_N_needed 58 = .ok (.ifCond .lt 24, 3) := by decide +kernel
theorem d_N_needed_61 : decode b_N_needed 61 = .ok (.iload 6, 2) := by decide +kernel
theorem d_N_needed_63 : decode b_N_needed 63 = .ok (.aload_n 0, 1) := by decide +kernel
theorem d_N_needed_64 : decode b_N_needed 64 = .ok (.getfield 28, 3) := by decide +kernel
theorem d_N_needed_67 : decode b_N_needed 67 = .ok (.arraylength, 1) := by decide +kernel
theorem d_N_needed_68 : decode b_N_needed 68 = .ok (.if_icmp .ge 14, 3) := by decide +kernel
theorem d_N_needed_71 : decode b_N_needed 71 = .ok (.aload_n 0, 1) := by decide +kernel
theorem d_N_needed_72 : decode b_N_needed 72 = .ok (.getfield 28, 3) := by decide +kernel
theorem d_N_needed_75 : decode b_N_needed 75 = .ok (.iload 6, 2) := by decide +kernel
theorem d_N_needed_77 : decode b_N_needed 77 = .ok (.dup2, 1) := by decide +kernel
theorem d_N_needed_78 : decode b_N_needed 78 = .ok (.iaload, 1) := by decide +kernel
theorem d_N_needed_79 : decode b_N_needed 79 = .ok (.iconst 1, 1) := by decide +kernel
theorem d_N_needed_80 : decode b_N_needed 80 = .ok (.isub, 1) := by decide +kernel
theorem d_N_needed_81 : decode b_N_needed 81 = .ok (.iastore, 1) := by decide +kernel
theorem d_N_needed_82 : decode b_N_needed 82 = .ok (.aload_n 0, 1) := by decide +kernel
theorem d_N_needed_83 : decode b_N_needed 83 = .ok (.aload_n 0, 1) := by decide +kernel
theorem d_N_needed_84 : decode b_N_needed 84 = .ok (.iload_n 3, 1) := by decide +kernel
theorem d_N_needed_85 : decode b_N_needed 85 = .ok (.iconst 1, 1) := by decide +kernel
theorem d_N_needed_86 : decode b_N_needed 86 = .ok (.invokevirtual 46, 3) := by decide +kernel
theorem d_N_needed_89 : decode b_N_needed 89 = .ok (.iconst (-1), 1) := by decide +kernel
theorem d_N_needed_90 : decode b_N_needed 90 = .ok (.invokevirtual 77, 3) := by decide +kernel
theorem d_N_needed_93 : decode b_N_needed 93 = .ok (.aload_n 0, 1) := by decide +kernel
theorem d_N_needed_94 : decode b_N_needed 94 = .ok (.aload_n 0, 1) := by decide +kernel
theorem d_N_needed_95 : decode b_N_needed 95 = .ok (.iload_n 3, 1) := by decide +kernel
theorem d_N_needed_96 : decode b_N_needed 96 = .ok (.iconst 2, 1) := by decide +kernel
theorem d_N_needed_97 : decode b_N_needed 97 = .ok (.invokevirtual 46, 3) := by decide +kernel
theorem d_N_needed_100 : decode b_N_needed 100 = .ok (.iconst (-1), 1) := by decide +kernel
theorem d_N_needed_101 : decode b_N_needed 101 = .ok (.invokevirtual 77, 3) := by decide +kernel
theorem d_N_needed_104 : decode b_N_needed 104 = .ok (.aload_n 0, 1) := by decide +kernel
theorem d_N_needed_105 : decode b_N_needed 105 = .ok (.iload_n 3, 1) := by decide +kernel
theorem d_N_needed_106 : decode b_N_needed 106 = .ok (.invokevirtual 106, 3) := by decide +kernel
theorem d_N_needed_109 : decode b_N_needed 109 = .ok (.iload 5, 2) := by decide +kernel
theorem d_N_needed_111 : decode b_N_needed 111 = .ok (.istore_n 3, 1) := by decide +kernel
theorem d_N_needed_112 : decode b_N_needed 112 = .ok (.iinc 4 1, 3) := by decide +kernel
theorem d_N_needed_115 : decode b_N_needed 115 = .ok (.goto (-108), 3) := by decide +kernel
theorem d_N_needed_118 : decode b_N_needed 118 = .ok (.iload_n 2, 1) := by decide +kernel
theorem d_N_needed_119 : decode b_N_needed 119 = .ok (.ireturn, 1) := by decide +kernel
theorem d_N_giveBack_0 : decode b_N_giveBack 0 = .ok (.aload_n 0, 1) := by decide +kernel
theorem d_N_giveBack_1 : decode b_N_giveBack 1 = .ok (.iload_n 1, 1) := by decide +kernel
theorem d_N_giveBack_2 : decode b_N_giveBack 2 = .ok (.iconst 3, 1) := by decide +kernel
theorem d_N_giveBack_3 : decode b_N_giveBack 3 = .ok (.aload_n 0, 1) := by decide +kernel
theorem d_N_giveBack_4 : decode b_N_giveBack 4 = .ok (.getfield 22, 3) := by decide +kernel
theorem d_N_giveBack_7 : decode b_N_giveBack 7 = .ok (.invokevirtual 65, 3) := by decide +kernel
theorem d_N_giveBack_10 : decode b_N_giveBack 10 = .ok (.aload_n 0, 1) := by decide +kernel
theorem d_N_giveBack_11 : decode b_N_giveBack 11 = .ok (.iload_n 1, 1) := by decide +kernel
theorem d_N_giveBack_12 : decode b_N_giveBack 12 = .ok (.putfield 22, 3) := by decide +kernel
theorem d_N_giveBack_15 : decode b_N_giveBack 15 = .ok (.aload_n 0, 1) := by decide +kernel
theorem d_N_giveBack_16 : decode b_N_giveBack 16 = .ok (.dup, 1) := by decide +kernel
theorem d_N_giveBack_17 : decode b_N_giveBack 17 = .ok (.getfield 40, 3) := by decide +kernel
theorem d_N_giveBack_20 : decode b_N_giveBack 20 = .ok (.iconst 1, 1) := by decide +kernel
theorem d_N_giveBack_21 : decode b_N_giveBack 21 = .ok (.isub, 1) := by decide +kernel
theorem d_N_giveBack_22 : decode b_N_giveBack 22 = .ok (.putfield 40, 3) := by decide +kernel
theorem d_N_giveBack_25 : decode b_N_giveBack 25 = .ok (.return_, 1) := by decide +kernel
theorem d_JM_max_0 : decode b_JM_max 0 = .ok (.iload_n 0, 1) := by decide +kernel
theorem d_JM_max_1 : decode b_JM_max 1 = .ok (.iload_n 1, 1) := by decide +kernel
theorem d_JM_max_2 : decode b_JM_max 2 = .ok (.if_icmp .lt 7, 3) := by decide +kernel
theorem d_JM_max_5 : decode b_JM_max 5 = .ok (.iload_n 0, 1) := by decide +kernel
theorem d_JM_max_6 : decode b_JM_max 6 = .ok (.goto 4, 3) := by decide +kernel
theorem d_JM_max_9 : decode b_JM_max 9 = .ok (.iload_n 1, 1) := by decide +kernel
theorem d_JM_max_10 : decode b_JM_max 10 = .ok (.ireturn, 1) := by decide +kernel
theorem d_N_widen_0 : decode b_N_widen 0 = .ok (.iload_n 1, 1) := by decide +kernel
theorem d_N_widen_1 : decode b_N_widen 1 = .ok (.iconst 2, 1) := by decide +kernel
theorem d_N_widen_2 : decode b_N_widen 2 = .ok (.iadd, 1) := by decide +kernel
theorem d_N_widen_3 : decode b_N_widen 3 = .ok (.sipush 24800, 3) := by decide +kernel
theorem d_N_widen_6 : decode b_N_widen 6 = .ok (.invokestatic 57, 3) := by decide +kernel
theorem d_N_widen_9 : decode b_N_widen 9 = .ok (.istore_n 2, 1) := by decide +kernel
theorem d_N_widen_10 : decode b_N_widen 10 = .ok (.iload_n 2, 1) := by decide +kernel
theorem d_N_widen_11 : decode b_N_widen 11 = .ok (.aload_n 0, 1) := by decide +kernel
theorem d_N_widen_12 : decode b_N_widen 12 = .ok (.getfield 15, 3) := by decide +kernel
theorem d_N_widen_15 : decode b_N_widen 15 = .ok (.if_icmp .le 40, 3) := by decide +kernel
theorem d_N_widen_18 : decode b_N_widen 18 = .ok (.aload_n 0, 1) := by decide +kernel
theorem d_N_widen_19 : decode b_N_widen 19 = .ok (.iload_n 2, 1) := by decide +kernel
theorem d_N_widen_20 : decode b_N_widen 20 = .ok (.iconst 2, 1) := by decide +kernel
theorem d_N_widen_21 : decode b_N_widen 21 = .ok (.aload_n 0, 1) := by decide +kernel
theorem d_N_widen_22 : decode b_N_widen 22 = .ok (.getfield 15, 3) := by decide +kernel
theorem d_N_widen_25 : decode b_N_widen 25 = .ok (.imul, 1) := by decide +kernel
theorem d_N_widen_26 : decode b_N_widen 26 = .ok (.invokestatic 90, 3) := by decide +kernel
theorem d_N_widen_29 : decode b_N_widen 29 = .ok (.sipush 24800, 3) := by decide +kernel
theorem d_N_widen_32 : decode b_N_widen 32 = .ok (.invokestatic 57, 3) := by decide +kernel
theorem d_N_widen_35 : decode b_N_widen 35 = .ok (.putfield 15, 3) := by decide +kernel
theorem d_N_widen_38 : decode b_N_widen 38 = .ok (.aload_n 0, 1) := by decide +kernel
theorem d_N_widen_39 : decode b_N_widen 39 = .ok (.aload_n 0, 1) := by decide +kernel
theorem d_N_widen_40 : decode b_N_widen 40 = .ok (.getfield 11, 3) := by decide +kernel
theorem d_N_widen_43 : decode b_N_widen 43 = .ok (.aload_n 0, 1) := by decide +kernel
theorem d_N_widen_44 : decode b_N_widen 44 = .ok (.getfield 15, 3) := by decide +kernel
theorem d_N_widen_47 : decode b_N_widen 47 = .ok (.iconst 5, 1) := by decide +kernel
theorem d_N_widen_48 : decode b_N_widen 48 = .ok (.imul, 1) := by decide +kernel
theorem d_N_widen_49 : decode b_N_widen 49 = .ok (.invokestatic 97, 3) := by decide +kernel
theorem d_N_widen_52 : decode b_N_widen 52 = .ok (.putfield 11, 3) := by decide +kernel
theorem d_N_widen_55 : decode b_N_widen 55 = .ok (.return_, 1) := by decide +kernel
theorem d_JA_copyOf_0 : decode b_JA_copyOf 0 = .ok (.iload_n 1, 1) := by decide +kernel
theorem d_JA_copyOf_1 : decode b_JA_copyOf 1 = .ok (.aload_n 0, 1) := by decide +kernel
theorem d_JA_copyOf_2 : decode b_JA_copyOf 2 = .ok (.arraylength, 1) := by decide +kernel
theorem d_JA_copyOf_3 : decode b_JA_copyOf 3 = .ok (.if_icmp .ne 11, 3) := by decide +kernel
theorem d_JA_copyOf_6 : decode b_JA_copyOf 6 = .ok (.aload_n 0, 1) := by decide +kernel
theorem d_JA_copyOf_7 : decode b_JA_copyOf 7 = .ok (.invokevirtual 316, 3) := by decide +kernel
theorem d_JA_copyOf_10 : decode b_JA_copyOf 10 = .ok (.checkcast 317, 3) := by decide +kernel
theorem d_JA_copyOf_13 : decode b_JA_copyOf 13 = .ok (.areturn, 1) := by decide +kernel
theorem d_JA_copyOf_14 : decode b_JA_copyOf 14 = .ok (.iload_n 1, 1) := by decide +kernel
theorem d_JA_copyOf_15 : decode b_JA_copyOf 15 = .ok (.newarray .int, 2) := by decide +kernel
theorem d_JA_copyOf_17 : decode b_JA_copyOf 17 = .ok (.astore_n 2, 1) := by decide +kernel
theorem d_JA_copyOf_18 : decode b_JA_copyOf 18 = .ok (.aload_n 0, 1) := by decide +kernel
theorem d_JA_copyOf_19 : decode b_JA_copyOf 19 = .ok (.iconst 0, 1) := by decide +kernel
theorem d_JA_copyOf_20 : decode b_JA_copyOf 20 = .ok (.aload_n 2, 1) := by decide +kernel
theorem d_JA_copyOf_21 : decode b_JA_copyOf 21 = .ok (.iconst 0, 1) := by decide +kernel
theorem d_JA_copyOf_22 : decode b_JA_copyOf 22 = .ok (.aload_n 0, 1) := by decide +kernel
theorem d_JA_copyOf_23 : decode b_JA_copyOf 23 = .ok (.arraylength, 1) := by decide +kernel
theorem d_JA_copyOf_24 : decode b_JA_copyOf 24 = .ok (.iload_n 1, 1) := by decide +kernel
theorem d_JA_copyOf_25 : decode b_JA_copyOf 25 = .ok (.invokestatic 304, 3) := by decide +kernel
theorem d_JA_copyOf_28 : decode b_JA_copyOf 28 = .ok (.invokestatic 150, 3) := by decide +kernel
theorem d_JA_copyOf_31 : decode b_JA_copyOf 31 = .ok (.aload_n 2, 1) := by decide +kernel
theorem d_JA_copyOf_32 : decode b_JA_copyOf 32 = .ok (.areturn, 1) := by decide +kernel
theorem d_M_forget_0 : decode b_M_forget 0 = .ok (.aload_n 0, 1) := by decide +kernel
theorem d_M_forget_1 : decode b_M_forget 1 = .ok (.dup, 1) := by decide +kernel
theorem d_M_forget_2 : decode b_M_forget 2 = .ok (.getfield 15, 3) := by decide +kernel
theorem d_M_forget_5 : decode b_M_forget 5 = .ok (.iconst 1, 1) := by decide +kernel
theorem d_M_forget_6 : decode b_M_forget 6 = .ok (.iadd, 1) := by decide +kernel
theorem d_M_forget_7 : decode b_M_forget 7 = .ok (.putfield 15, 3) := by decide +kernel
theorem d_M_forget_10 : decode b_M_forget 10 = .ok (.return_, 1) := by decide +kernel
theorem d_N_make_0 : decode b_N_make 0 = .ok (.iload_n 2, 1) := by decide +kernel
theorem d_N_make_1 : decode b_N_make 1 = .ok (.iload_n 3, 1) := by decide +kernel
theorem d_N_make_2 : decode b_N_make 2 = .ok (.if_icmp .ne 5, 3) := by decide +kernel
theorem d_N_make_5 : decode b_N_make 5 = .ok (.iload_n 2, 1) := by decide +kernel
theorem d_N_make_6 : decode b_N_make 6 = .ok (.ireturn, 1) := by decide +kernel
theorem d_N_make_7 : decode b_N_make 7 = .ok (.iload_n 1, 1) := by decide +kernel
theorem d_N_make_8 : decode b_N_make 8 = .ok (.iload_n 2, 1) := by decide +kernel
theorem d_N_make_9 : decode b_N_make 9 = .ok (.iload_n 3, 1) := by decide +kernel
theorem d_N_make_10 : decode b_N_make 10 = .ok (.invokestatic 69, 3) := by decide +kernel
theorem d_N_make_13 : decode b_N_make 13 = .ok (.istore 4, 2) := by decide +kernel
theorem d_N_make_15 : decode b_N_make 15 = .ok (.iload 4, 2) := by decide +kernel
theorem d_N_make_17 : decode b_N_make 17 = .ok (.ifCond .lt 13, 3) := by decide +kernel
theorem d_N_make_20 : decode b_N_make 20 = .ok (.iload 4, 2) := by decide +kernel
theorem d_N_make_22 : decode b_N_make 22 = .ok (.aload_n 0, 1) := by decide +kernel
theorem d_N_make_23 : decode b_N_make 23 = .ok (.getfield 25, 3) := by decide +kernel
theorem d_N_make_26 : decode b_N_make 26 = .ok (.arraylength, 1) := by decide +kernel
theorem d_N_make_27 : decode b_N_make 27 = .ok (.if_icmp .lt 5, 3) := by decide +kernel
theorem d_N_make_30 : decode b_N_make 30 = .ok (.iconst 0, 1) := by decide +kernel
theorem d_N_make_31 : decode b_N_make 31 = .ok (.ireturn, 1) := by decide +kernel
theorem d_N_make_32 : decode b_N_make 32 = .ok (.aload_n 0, 1) := by decide +kernel
theorem d_N_make_33 : decode b_N_make 33 = .ok (.getfield 25, 3) := by decide +kernel
theorem d_N_make_36 : decode b_N_make 36 = .ok (.iload 4, 2) := by decide +kernel
theorem d_N_make_38 : decode b_N_make 38 = .ok (.iaload, 1) := by decide +kernel
theorem d_N_make_39 : decode b_N_make 39 = .ok (.istore 5, 2) := by decide +kernel
theorem d_N_make_41 : decode b_N_make 41 = .ok (.iconst 0, 1) := by decide +kernel
theorem d_N_make_42 : decode b_N_make 42 = .ok (.istore 6, 2) := by decide +kernel
theorem d_N_make_44 : decode b_N_make 44 = .ok (.iload 6, 2) := by decide +kernel
theorem d_N_make_46 : decode b_N_make 46 = .ok (.sipush 24800, 3) := by decide +kernel
theorem d_N_make_49 : decode b_N_make 49 = .ok (.if_icmp .ge 48, 3) := by decide +kernel
theorem d_N_make_52 : decode b_N_make 52 = .ok (.iload 5, 2) := by decide +kernel
theorem d_N_make_54 : decode b_N_make 54 = .ok (.ifCond .eq 43, 3) := by decide +kernel
theorem d_N_make_57 : decode b_N_make 57 = .ok (.aload_n 0, 1) := by decide +kernel
theorem d_N_make_58 : decode b_N_make 58 = .ok (.iload 5, 2) := by decide +kernel
theorem d_N_make_60 : decode b_N_make 60 = .ok (.iconst 1, 1) := by decide +kernel
theorem d_N_make_61 : decode b_N_make 61 = .ok (.invokevirtual 46, 3) := by decide +kernel
theorem d_N_make_64 : decode b_N_make 64 = .ok (.iload_n 2, 1) := by decide +kernel
theorem d_N_make_65 : decode b_N_make 65 = .ok (.if_icmp .ne 17, 3) := by decide +kernel
theorem d_N_make_68 : decode b_N_make 68 = .ok (.aload_n 0, 1) := by decide +kernel
theorem d_N_make_69 : decode b_N_make 69 = .ok (.iload 5, 2) := by decide +kernel
theorem d_N_make_71 : decode b_N_make 71 = .ok (.iconst 2, 1) := by decide +kernel
theorem d_N_make_72 : decode b_N_make 72 = .ok (.invokevirtual 46, 3) := by decide +kernel
theorem d_N_make_75 : decode b_N_make 75 = .ok (.iload_n 3, 1) := by decide +kernel
theorem d_N_make_76 : decode b_N_make 76 = .ok (.if_icmp .ne 6, 3) := by decide +kernel
theorem d_N_make_79 : decode b_N_make 79 = .ok (.iload 5, 2) := by decide +kernel
theorem d_N_make_81 : decode b_N_make 81 = .ok (.ireturn, 1) := by decide +kernel
theorem d_N_make_82 : decode b_N_make 82 = .ok (.aload_n 0, 1) := by decide +kernel
theorem d_N_make_83 : decode b_N_make 83 = .ok (.iload 5, 2) := by decide +kernel
theorem d_N_make_85 : decode b_N_make 85 = .ok (.iconst 3, 1) := by decide +kernel
theorem d_N_make_86 : decode b_N_make 86 = .ok (.invokevirtual 46, 3) := by decide +kernel
theorem d_N_make_89 : decode b_N_make 89 = .ok (.istore 5, 2) := by decide +kernel
theorem d_N_make_91 : decode b_N_make 91 = .ok (.iinc 6 1, 3) := by decide +kernel
theorem d_N_make_94 : decode b_N_make 94 = .ok (.goto (-50), 3) := by decide +kernel
theorem d_N_make_97 : decode b_N_make 97 = .ok (.aload_n 0, 1) := by decide +kernel
theorem d_N_make_98 : decode b_N_make 98 = .ok (.invokevirtual 73, 3) := by decide +kernel
theorem d_N_make_101 : decode b_N_make 101 = .ok (.istore 5, 2) := by decide +kernel
theorem d_N_make_103 : decode b_N_make 103 = .ok (.iload 5, 2) := by decide +kernel
theorem d_N_make_105 : decode b_N_make 105 = .ok (.ifCond .ne 5, 3) := by decide +kernel
theorem d_N_make_108 : decode b_N_make 108 = .ok (.iconst 0, 1) := by decide +kernel
theorem d_N_make_109 : decode b_N_make 109 = .ok (.ireturn, 1) := by decide +kernel
theorem d_N_make_110 : decode b_N_make 110 = .ok (.aload_n 0, 1) := by decide +kernel
theorem d_N_make_111 : decode b_N_make 111 = .ok (.iload_n 2, 1) := by decide +kernel
theorem d_N_make_112 : decode b_N_make 112 = .ok (.iconst 1, 1) := by decide +kernel
theorem d_N_make_113 : decode b_N_make 113 = .ok (.invokevirtual 77, 3) := by decide +kernel
theorem d_N_make_116 : decode b_N_make 116 = .ok (.aload_n 0, 1) := by decide +kernel
theorem d_N_make_117 : decode b_N_make 117 = .ok (.iload_n 3, 1) := by decide +kernel
theorem d_N_make_118 : decode b_N_make 118 = .ok (.iconst 1, 1) := by decide +kernel
theorem d_N_make_119 : decode b_N_make 119 = .ok (.invokevirtual 77, 3) := by decide +kernel
theorem d_N_make_122 : decode b_N_make 122 = .ok (.aload_n 0, 1) := by decide +kernel
theorem d_N_make_123 : decode b_N_make 123 = .ok (.iload 5, 2) := by decide +kernel
theorem d_N_make_125 : decode b_N_make 125 = .ok (.iload_n 1, 1) := by decide +kernel
theorem d_N_make_126 : decode b_N_make 126 = .ok (.iload_n 2, 1) := by decide +kernel
theorem d_N_make_127 : decode b_N_make 127 = .ok (.iload_n 3, 1) := by decide +kernel
theorem d_N_make_128 : decode b_N_make 128 = .ok (.invokevirtual 81, 3) := by decide +kernel
theorem d_N_make_131 : decode b_N_make 131 = .ok (.iload 5, 2) := by decide +kernel
theorem d_N_make_133 : decode b_N_make 133 = .ok (.ireturn, 1) := by decide +kernel
theorem d_N_freshRow_0 : decode b_N_freshRow 0 = .ok (.aload_n 0, 1) := by decide +kernel
theorem d_N_freshRow_1 : decode b_N_freshRow 1 = .ok (.getfield 22, 3) := by decide +kernel
theorem d_N_freshRow_4 : decode b_N_freshRow 4 = .ok (.istore_n 1, 1) := by decide +kernel
theorem d_N_freshRow_5 : decode b_N_freshRow 5 = .ok (.iload_n 1, 1) := by decide +kernel
theorem d_N_freshRow_6 : decode b_N_freshRow 6 = .ok (.ifCond .eq 16, 3) := by decide +kernel
theorem d_N_freshRow_9 : decode b_N_freshRow 9 = .ok (.aload_n 0, 1) := by decide +kernel
theorem d_N_freshRow_10 : decode b_N_freshRow 10 = .ok (.aload_n 0, 1) := by decide +kernel
theorem d_N_freshRow_11 : decode b_N_freshRow 11 = .ok (.iload_n 1, 1) := by decide +kernel
theorem d_N_freshRow_12 : decode b_N_freshRow 12 = .ok (.iconst 3, 1) := by decide +kernel
theorem d_N_freshRow_13 : decode b_N_freshRow 13 = .ok (.invokevirtual 46, 3) := by decide +kernel
theorem d_N_freshRow_16 : decode b_N_freshRow 16 = .ok (.putfield 22, 3) := by decide +kernel
theorem d_N_freshRow_19 : decode b_N_freshRow 19 = .ok (.goto 34, 3) := by decide +kernel
theorem d_N_freshRow_22 : decode b_N_freshRow 22 = .ok (.aload_n 0, 1) := by decide +kernel
theorem d_N_freshRow_23 : decode b_N_freshRow 23 = .ok (.getfield 19, 3) := by decide +kernel
theorem d_N_freshRow_26 : decode b_N_freshRow 26 = .ok (.aload_n 0, 1) := by decide +kernel
theorem d_N_freshRow_27 : decode b_N_freshRow 27 = .ok (.getfield 15, 3) := by decide +kernel
theorem d_N_freshRow_30 : decode b_N_freshRow 30 = .ok (.if_icmp .ge 21, 3) := by decide +kernel
theorem d_N_freshRow_33 : decode b_N_freshRow 33 = .ok (.aload_n 0, 1) := by decide +kernel
theorem d_N_freshRow_34 : decode b_N_freshRow 34 = .ok (.getfield 19, 3) := by decide +kernel
theorem d_N_freshRow_37 : decode b_N_freshRow 37 = .ok (.istore_n 1, 1) := by decide +kernel
theorem d_N_freshRow_38 : decode b_N_freshRow 38 = .ok (.aload_n 0, 1) := by decide +kernel
theorem d_N_freshRow_39 : decode b_N_freshRow 39 = .ok (.dup, 1) := by decide +kernel
theorem d_N_freshRow_40 : decode b_N_freshRow 40 = .ok (.getfield 19, 3) := by decide +kernel
theorem d_N_freshRow_43 : decode b_N_freshRow 43 = .ok (.iconst 1, 1) := by decide +kernel
theorem d_N_freshRow_44 : decode b_N_freshRow 44 = .ok (.iadd, 1) := by decide +kernel
theorem d_N_freshRow_45 : decode b_N_freshRow 45 = .ok (.putfield 19, 3) := by decide +kernel
theorem d_N_freshRow_48 : decode b_N_freshRow 48 = .ok (.goto 5, 3) := by decide +kernel
theorem d_N_freshRow_51 : decode b_N_freshRow 51 = .ok (.iconst 0, 1) := by decide +kernel
theorem d_N_freshRow_52 : decode b_N_freshRow 52 = .ok (.ireturn, 1) := by decide +kernel
theorem d_N_freshRow_53 : decode b_N_freshRow 53 = .ok (.aload_n 0, 1) := by decide +kernel
theorem d_N_freshRow_54 : decode b_N_freshRow 54 = .ok (.iload_n 1, 1) := by decide +kernel
theorem d_N_freshRow_55 : decode b_N_freshRow 55 = .ok (.iconst 4, 1) := by decide +kernel
theorem d_N_freshRow_56 : decode b_N_freshRow 56 = .ok (.iconst 0, 1) := by decide +kernel
theorem d_N_freshRow_57 : decode b_N_freshRow 57 = .ok (.invokevirtual 65, 3) := by decide +kernel
theorem d_N_freshRow_60 : decode b_N_freshRow 60 = .ok (.aload_n 0, 1) := by decide +kernel
theorem d_N_freshRow_61 : decode b_N_freshRow 61 = .ok (.dup, 1) := by decide +kernel
theorem d_N_freshRow_62 : decode b_N_freshRow 62 = .ok (.getfield 40, 3) := by decide +kernel
theorem d_N_freshRow_65 : decode b_N_freshRow 65 = .ok (.iconst 1, 1) := by decide +kernel
theorem d_N_freshRow_66 : decode b_N_freshRow 66 = .ok (.iadd, 1) := by decide +kernel
theorem d_N_freshRow_67 : decode b_N_freshRow 67 = .ok (.putfield 40, 3) := by decide +kernel
theorem d_N_freshRow_70 : decode b_N_freshRow 70 = .ok (.iload_n 1, 1) := by decide +kernel
theorem d_N_freshRow_71 : decode b_N_freshRow 71 = .ok (.ireturn, 1) := by decide +kernel
theorem d_N_link_0 : decode b_N_link 0 = .ok (.iload_n 2, 1) := by decide +kernel
theorem d_N_link_1 : decode b_N_link 1 = .ok (.iload_n 3, 1) := by decide +kernel
theorem d_N_link_2 : decode b_N_link 2 = .ok (.iload 4, 2) := by decide +kernel
theorem d_N_link_4 : decode b_N_link 4 = .ok (.invokestatic 69, 3) := by decide +kernel
theorem d_N_link_7 : decode b_N_link 7 = .ok (.istore 5, 2) := by decide +kernel
theorem d_N_link_9 : decode b_N_link 9 = .ok (.iload_n 2, 1) := by decide +kernel
theorem d_N_link_10 : decode b_N_link 10 = .ok (.ifCond .lt 27, 3) := by decide +kernel
theorem d_N_link_13 : decode b_N_link 13 = .ok (.iload_n 2, 1) := by decide +kernel
theorem d_N_link_14 : decode b_N_link 14 = .ok (.aload_n 0, 1) := by decide +kernel
theorem d_N_link_15 : decode b_N_link 15 = .ok (.getfield 28, 3) := by decide +kernel
theorem d_N_link_18 : decode b_N_link 18 = .ok (.arraylength, 1) := by decide +kernel
theorem d_N_link_19 : decode b_N_link 19 = .ok (.if_icmp .ge 18, 3) := by decide +kernel
theorem d_N_link_22 : decode b_N_link 22 = .ok (.iload 5, 2) := by decide +kernel
theorem d_N_link_24 : decode b_N_link 24 = .ok (.ifCond .lt 13, 3) := by decide +kernel
theorem d_N_link_27 : decode b_N_link 27 = .ok (.iload 5, 2) := by decide +kernel
theorem d_N_link_29 : decode b_N_link 29 = .ok (.aload_n 0, 1) := by decide +kernel
theorem d_N_link_30 : decode b_N_link 30 = .ok (.getfield 25, 3) := by decide +kernel
theorem d_N_link_33 : decode b_N_link 33 = .ok (.arraylength, 1) := by decide +kernel
theorem d_N_link_34 : decode b_N_link 34 = .ok (.if_icmp .lt 4, 3) := by decide +kernel
theorem d_N_link_37 : decode b_N_link 37 = .ok (.return_, 1) := by decide +kernel
theorem d_N_link_38 : decode b_N_link 38 = .ok (.aload_n 0, 1) := by decide +kernel
theorem d_N_link_39 : decode b_N_link 39 = .ok (.iload_n 1, 1) := by decide +kernel
theorem d_N_link_40 : decode b_N_link 40 = .ok (.iconst 0, 1) := by decide +kernel
theorem d_N_link_41 : decode b_N_link 41 = .ok (.iload_n 2, 1) := by decide +kernel
theorem d_N_link_42 : decode b_N_link 42 = .ok (.invokevirtual 65, 3) := by decide +kernel
theorem d_N_link_45 : decode b_N_link 45 = .ok (.aload_n 0, 1) := by decide +kernel
theorem d_N_link_46 : decode b_N_link 46 = .ok (.iload_n 1, 1) := by decide +kernel
theorem d_N_link_47 : decode b_N_link 47 = .ok (.iconst 1, 1) := by decide +kernel
theorem d_N_link_48 : decode b_N_link 48 = .ok (.iload_n 3, 1) := by decide +kernel
theorem d_N_link_49 : decode b_N_link 49 = .ok (.invokevirtual 65, 3) := by decide +kernel
theorem d_N_link_52 : decode b_N_link 52 = .ok (.aload_n 0, 1) := by decide +kernel
theorem d_N_link_53 : decode b_N_link 53 = .ok (.iload_n 1, 1) := by decide +kernel
theorem d_N_link_54 : decode b_N_link 54 = .ok (.iconst 2, 1) := by decide +kernel
theorem d_N_link_55 : decode b_N_link 55 = .ok (.iload 4, 2) := by decide +kernel
theorem d_N_link_57 : decode b_N_link 57 = .ok (.invokevirtual 65, 3) := by decide +kernel
theorem d_N_link_60 : decode b_N_link 60 = .ok (.aload_n 0, 1) := by decide +kernel
theorem d_N_link_61 : decode b_N_link 61 = .ok (.iload_n 1, 1) := by decide +kernel
theorem d_N_link_62 : decode b_N_link 62 = .ok (.iconst 3, 1) := by decide +kernel
theorem d_N_link_63 : decode b_N_link 63 = .ok (.aload_n 0, 1) := by decide +kernel
theorem d_N_link_64 : decode b_N_link 64 = .ok (.getfield 25, 3) := by decide +kernel
theorem d_N_link_67 : decode b_N_link 67 = .ok (.iload 5, 2) := by decide +kernel
theorem d_N_link_69 : decode b_N_link 69 = .ok (.iaload, 1) := by decide +kernel
theorem d_N_link_70 : decode b_N_link 70 = .ok (.invokevirtual 65, 3) := by decide +kernel
theorem d_N_link_73 : decode b_N_link 73 = .ok (.aload_n 0, 1) := by decide +kernel
theorem d_N_link_74 : decode b_N_link 74 = .ok (.getfield 25, 3) := by decide +kernel
theorem d_N_link_77 : decode b_N_link 77 = .ok (.iload 5, 2) := by decide +kernel
theorem d_N_link_79 : decode b_N_link 79 = .ok (.iload_n 1, 1) := by decide +kernel
theorem d_N_link_80 : decode b_N_link 80 = .ok (.iastore, 1) := by decide +kernel
theorem d_N_link_81 : decode b_N_link 81 = .ok (.aload_n 0, 1) := by decide +kernel
theorem d_N_link_82 : decode b_N_link 82 = .ok (.getfield 28, 3) := by decide +kernel
theorem d_N_link_85 : decode b_N_link 85 = .ok (.iload_n 2, 1) := by decide +kernel
theorem d_N_link_86 : decode b_N_link 86 = .ok (.dup2, 1) := by decide +kernel
theorem d_N_link_87 : decode b_N_link 87 = .ok (.iaload, 1) := by decide +kernel
theorem d_N_link_88 : decode b_N_link 88 = .ok (.iconst 1, 1) := by decide +kernel
theorem d_N_link_89 : decode b_N_link 89 = .ok (.iadd, 1) := by decide +kernel
theorem d_N_link_90 : decode b_N_link 90 = .ok (.iastore, 1) := by decide +kernel
theorem d_N_link_91 : decode b_N_link 91 = .ok (.return_, 1) := by decide +kernel
theorem d_S_choose_0 : decode b_S_choose 0 = .ok (.iload_n 1, 1) := by decide +kernel
theorem d_S_choose_1 : decode b_S_choose 1 = .ok (.invokestatic 42, 3) := by decide +kernel
theorem d_S_choose_4 : decode b_S_choose 4 = .ok (.iload_n 2, 1) := by decide +kernel
theorem d_S_choose_5 : decode b_S_choose 5 = .ok (.invokestatic 42, 3) := by decide +kernel
theorem d_S_choose_8 : decode b_S_choose 8 = .ok (.iload_n 3, 1) := by decide +kernel
theorem d_S_choose_9 : decode b_S_choose 9 = .ok (.invokestatic 42, 3) := by decide +kernel
theorem d_S_choose_12 : decode b_S_choose 12 = .ok (.iload 4, 2) := by decide +kernel
theorem d_S_choose_14 : decode b_S_choose 14 = .ok (.invokestatic 42, 3) := by decide +kernel
theorem d_S_choose_17 : decode b_S_choose 17 = .ok (.aload_n 0, 1) := by decide +kernel
theorem d_S_choose_18 : decode b_S_choose 18 = .ok (.iload_n 1, 1) := by decide +kernel
theorem d_S_choose_19 : decode b_S_choose 19 = .ok (.aload_n 0, 1) := by decide +kernel
theorem d_S_choose_20 : decode b_S_choose 20 = .ok (.getfield 31, 3) := by decide +kernel
theorem d_S_choose_23 : decode b_S_choose 23 = .ok (.aload_n 0, 1) := by decide +kernel
theorem d_S_choose_24 : decode b_S_choose 24 = .ok (.getfield 9, 3) := by decide +kernel
theorem d_S_choose_27 : decode b_S_choose 27 = .ok (.iload_n 2, 1) := by decide +kernel
theorem d_S_choose_28 : decode b_S_choose 28 = .ok (.iaload, 1) := by decide +kernel
theorem d_S_choose_29 : decode b_S_choose 29 = .ok (.aload_n 0, 1) := by decide +kernel
theorem d_S_choose_30 : decode b_S_choose 30 = .ok (.getfield 9, 3) := by decide +kernel
theorem d_S_choose_33 : decode b_S_choose 33 = .ok (.iload_n 3, 1) := by decide +kernel
theorem d_S_choose_34 : decode b_S_choose 34 = .ok (.iaload, 1) := by decide +kernel
theorem d_S_choose_35 : decode b_S_choose 35 = .ok (.aload_n 0, 1) := by decide +kernel
theorem d_S_choose_36 : decode b_S_choose 36 = .ok (.getfield 9, 3) := by decide +kernel
theorem d_S_choose_39 : decode b_S_choose 39 = .ok (.iload 4, 2) := by decide +kernel
theorem d_S_choose_41 : decode b_S_choose 41 = .ok (.iaload, 1) := by decide +kernel
theorem d_S_choose_42 : decode b_S_choose 42 = .ok (.invokevirtual 58, 3) := by decide +kernel
theorem d_S_choose_45 : decode b_S_choose 45 = .ok (.invokevirtual 46, 3) := by decide +kernel
theorem d_S_choose_48 : decode b_S_choose 48 = .ok (.ireturn, 1) := by decide +kernel
theorem d_A_chosen_0 : decode b_A_chosen 0 = .ok (.aload_n 0, 1) := by decide +kernel
theorem d_A_chosen_1 : decode b_A_chosen 1 = .ok (.sipush 765, 3) := by decide +kernel
theorem d_A_chosen_4 : decode b_A_chosen 4 = .ok (.invokevirtual 31, 3) := by decide +kernel
theorem d_A_chosen_7 : decode b_A_chosen 7 = .ok (.aload_n 0, 1) := by decide +kernel
theorem d_A_chosen_8 : decode b_A_chosen 8 = .ok (.iload_n 1, 1) := by decide +kernel
theorem d_A_chosen_9 : decode b_A_chosen 9 = .ok (.iload_n 2, 1) := by decide +kernel
theorem d_A_chosen_10 : decode b_A_chosen 10 = .ok (.iload_n 3, 1) := by decide +kernel
theorem d_A_chosen_11 : decode b_A_chosen 11 = .ok (.iconst 0, 1) := by decide +kernel
theorem d_A_chosen_12 : decode b_A_chosen 12 = .ok (.invokevirtual 38, 3) := by decide +kernel
theorem d_A_chosen_15 : decode b_A_chosen 15 = .ok (.ireturn, 1) := by decide +kernel
theorem d_A_pick_0 : decode b_A_pick 0 = .ok (.iload_n 1, 1) := by decide +kernel
theorem d_A_pick_1 : decode b_A_pick 1 = .ok (.iconst 1, 1) := by decide +kernel
theorem d_A_pick_2 : decode b_A_pick 2 = .ok (.if_icmp .eq 8, 3) := by decide +kernel
theorem d_A_pick_5 : decode b_A_pick 5 = .ok (.iload_n 2, 1) := by decide +kernel
theorem d_A_pick_6 : decode b_A_pick 6 = .ok (.iload_n 3, 1) := by decide +kernel
theorem d_A_pick_7 : decode b_A_pick 7 = .ok (.if_icmp .ne 5, 3) := by decide +kernel
theorem d_A_pick_10 : decode b_A_pick 10 = .ok (.iload_n 2, 1) := by decide +kernel
theorem d_A_pick_11 : decode b_A_pick 11 = .ok (.ireturn, 1) := by decide +kernel
theorem d_A_pick_12 : decode b_A_pick 12 = .ok (.iload_n 1, 1) := by decide +kernel
theorem d_A_pick_13 : decode b_A_pick 13 = .ok (.ifCond .ne 5, 3) := by decide +kernel
theorem d_A_pick_16 : decode b_A_pick 16 = .ok (.iload_n 3, 1) := by decide +kernel
theorem d_A_pick_17 : decode b_A_pick 17 = .ok (.ireturn, 1) := by decide +kernel
theorem d_A_pick_18 : decode b_A_pick 18 = .ok (.iload_n 2, 1) := by decide +kernel
theorem d_A_pick_19 : decode b_A_pick 19 = .ok (.iconst 1, 1) := by decide +kernel
theorem d_A_pick_20 : decode b_A_pick 20 = .ok (.if_icmp .ne 7, 3) := by decide +kernel
theorem d_A_pick_23 : decode b_A_pick 23 = .ok (.iload_n 3, 1) := by decide +kernel
theorem d_A_pick_24 : decode b_A_pick 24 = .ok (.ifCond .eq 10, 3) := by decide +kernel
theorem d_A_pick_27 : decode b_A_pick 27 = .ok (.iload 4, 2) := by decide +kernel
theorem d_A_pick_29 : decode b_A_pick 29 = .ok (.bipush 12, 2) := by decide +kernel
theorem d_A_pick_31 : decode b_A_pick 31 = .ok (.if_icmp .lt 5, 3) := by decide +kernel
theorem d_A_pick_34 : decode b_A_pick 34 = .ok (.iload_n 1, 1) := by decide +kernel
theorem d_A_pick_35 : decode b_A_pick 35 = .ok (.ireturn, 1) := by decide +kernel
theorem d_A_pick_36 : decode b_A_pick 36 = .ok (.aload_n 0, 1) := by decide +kernel
theorem d_A_pick_37 : decode b_A_pick 37 = .ok (.getfield 18, 3) := by decide +kernel
theorem d_A_pick_40 : decode b_A_pick 40 = .ok (.iload_n 1, 1) := by decide +kernel
theorem d_A_pick_41 : decode b_A_pick 41 = .ok (.iload_n 2, 1) := by decide +kernel
theorem d_A_pick_42 : decode b_A_pick 42 = .ok (.iload_n 3, 1) := by decide +kernel
theorem d_A_pick_43 : decode b_A_pick 43 = .ok (.invokevirtual 53, 3) := by decide +kernel
theorem d_A_pick_46 : decode b_A_pick 46 = .ok (.istore 5, 2) := by decide +kernel
theorem d_A_pick_48 : decode b_A_pick 48 = .ok (.iload 5, 2) := by decide +kernel
theorem d_A_pick_50 : decode b_A_pick 50 = .ok (.iconst (-1), 1) := by decide +kernel
theorem d_A_pick_51 : decode b_A_pick 51 = .ok (.if_icmp .eq 6, 3) := by decide +kernel
theorem d_A_pick_54 : decode b_A_pick 54 = .ok (.iload 5, 2) := by decide +kernel
theorem d_A_pick_56 : decode b_A_pick 56 = .ok (.ireturn, 1) := by decide +kernel
theorem d_A_pick_57 : decode b_A_pick 57 = .ok (.aload_n 0, 1) := by decide +kernel
theorem d_A_pick_58 : decode b_A_pick 58 = .ok (.getfield 9, 3) := by decide +kernel
theorem d_A_pick_61 : decode b_A_pick 61 = .ok (.iload_n 1, 1) := by decide +kernel
theorem d_A_pick_62 : decode b_A_pick 62 = .ok (.iload_n 2, 1) := by decide +kernel
theorem d_A_pick_63 : decode b_A_pick 63 = .ok (.iload_n 3, 1) := by decide +kernel
theorem d_A_pick_64 : decode b_A_pick 64 = .ok (.invokevirtual 56, 3) := by decide +kernel
theorem d_A_pick_67 : decode b_A_pick 67 = .ok (.istore 6, 2) := by decide +kernel
theorem d_A_pick_69 : decode b_A_pick 69 = .ok (.aload_n 0, 1) := by decide +kernel
theorem d_A_pick_70 : decode b_A_pick 70 = .ok (.aload_n 0, 1) := by decide +kernel
theorem d_A_pick_71 : decode b_A_pick 71 = .ok (.getfield 9, 3) := by decide +kernel
theorem d_A_pick_74 : decode b_A_pick 74 = .ok (.iload_n 1, 1) := by decide +kernel
theorem d_A_pick_75 : decode b_A_pick 75 = .ok (.iload 6, 2) := by decide +kernel
theorem d_A_pick_77 : decode b_A_pick 77 = .ok (.invokevirtual 59, 3) := by decide +kernel
theorem d_A_pick_80 : decode b_A_pick 80 = .ok (.aload_n 0, 1) := by decide +kernel
theorem d_A_pick_81 : decode b_A_pick 81 = .ok (.getfield 9, 3) := by decide +kernel
theorem d_A_pick_84 : decode b_A_pick 84 = .ok (.iload_n 2, 1) := by decide +kernel
theorem d_A_pick_85 : decode b_A_pick 85 = .ok (.iload 6, 2) := by decide +kernel
theorem d_A_pick_87 : decode b_A_pick 87 = .ok (.invokevirtual 59, 3) := by decide +kernel
theorem d_A_pick_90 : decode b_A_pick 90 = .ok (.aload_n 0, 1) := by decide +kernel
theorem d_A_pick_91 : decode b_A_pick 91 = .ok (.getfield 9, 3) := by decide +kernel
theorem d_A_pick_94 : decode b_A_pick 94 = .ok (.iload_n 3, 1) := by decide +kernel
theorem d_A_pick_95 : decode b_A_pick 95 = .ok (.iload 6, 2) := by decide +kernel
theorem d_A_pick_97 : decode b_A_pick 97 = .ok (.invokevirtual 59, 3) := by decide +kernel
theorem d_A_pick_100 : decode b_A_pick 100 = .ok (.iload 4, 2) := by decide +kernel
theorem d_A_pick_102 : decode b_A_pick 102 = .ok (.iconst 1, 1) := by decide +kernel
theorem d_A_pick_103 : decode b_A_pick 103 = .ok (.iadd, 1) := by decide +kernel
theorem d_A_pick_104 : decode b_A_pick 104 = .ok (.invokevirtual 38, 3) := by decide +kernel
theorem d_A_pick_107 : decode b_A_pick 107 = .ok (.istore 7, 2) := by decide +kernel
theorem d_A_pick_109 : decode b_A_pick 109 = .ok (.aload_n 0, 1) := by decide +kernel
theorem d_A_pick_110 : decode b_A_pick 110 = .ok (.aload_n 0, 1) := by decide +kernel
theorem d_A_pick_111 : decode b_A_pick 111 = .ok (.getfield 9, 3) := by decide +kernel
theorem d_A_pick_114 : decode b_A_pick 114 = .ok (.iload_n 1, 1) := by decide +kernel
theorem d_A_pick_115 : decode b_A_pick 115 = .ok (.iload 6, 2) := by decide +kernel
theorem d_A_pick_117 : decode b_A_pick 117 = .ok (.invokevirtual 62, 3) := by decide +kernel
theorem d_A_pick_120 : decode b_A_pick 120 = .ok (.aload_n 0, 1) := by decide +kernel
theorem d_A_pick_121 : decode b_A_pick 121 = .ok (.getfield 9, 3) := by decide +kernel
theorem d_A_pick_124 : decode b_A_pick 124 = .ok (.iload_n 2, 1) := by decide +kernel
theorem d_A_pick_125 : decode b_A_pick 125 = .ok (.iload 6, 2) := by decide +kernel
theorem d_A_pick_127 : decode b_A_pick 127 = .ok (.invokevirtual 62, 3) := by decide +kernel
theorem d_A_pick_130 : decode b_A_pick 130 = .ok (.aload_n 0, 1) := by decide +kernel
theorem d_A_pick_131 : decode b_A_pick 131 = .ok (.getfield 9, 3) := by decide +kernel
theorem d_A_pick_134 : decode b_A_pick 134 = .ok (.iload_n 3, 1) := by decide +kernel
theorem d_A_pick_135 : decode b_A_pick 135 = .ok (.iload 6, 2) := by decide +kernel
theorem d_A_pick_137 : decode b_A_pick 137 = .ok (.invokevirtual 62, 3) := by decide +kernel
theorem d_A_pick_140 : decode b_A_pick 140 = .ok (.iload 4, 2) := by decide +kernel
theorem d_A_pick_142 : decode b_A_pick 142 = .ok (.iconst 1, 1) := by decide +kernel
theorem d_A_pick_143 : decode b_A_pick 143 = .ok (.iadd, 1) := by decide +kernel
theorem d_A_pick_144 : decode b_A_pick 144 = .ok (.invokevirtual 38, 3) := by decide +kernel
theorem d_A_pick_147 : decode b_A_pick 147 = .ok (.istore 8, 2) := by decide +kernel
theorem d_A_pick_149 : decode b_A_pick 149 = .ok (.aload_n 0, 1) := by decide +kernel
theorem d_A_pick_150 : decode b_A_pick 150 = .ok (.getfield 9, 3) := by decide +kernel
theorem d_A_pick_153 : decode b_A_pick 153 = .ok (.iload 6, 2) := by decide +kernel
theorem d_A_pick_155 : decode b_A_pick 155 = .ok (.iload 7, 2) := by decide +kernel
theorem d_A_pick_157 : decode b_A_pick 157 = .ok (.iload 8, 2) := by decide +kernel
theorem d_A_pick_159 : decode b_A_pick 159 = .ok (.invokevirtual 34, 3) := by decide +kernel
theorem d_A_pick_162 : decode b_A_pick 162 = .ok (.istore 9, 2) := by decide +kernel
theorem d_A_pick_164 : decode b_A_pick 164 = .ok (.aload_n 0, 1) := by decide +kernel
theorem d_A_pick_165 : decode b_A_pick 165 = .ok (.getfield 18, 3) := by decide +kernel
theorem d_A_pick_168 : decode b_A_pick 168 = .ok (.iload_n 1, 1) := by decide +kernel
theorem d_A_pick_169 : decode b_A_pick 169 = .ok (.iload_n 2, 1) := by decide +kernel
theorem d_A_pick_170 : decode b_A_pick 170 = .ok (.iload_n 3, 1) := by decide +kernel
theorem d_A_pick_171 : decode b_A_pick 171 = .ok (.iload 9, 2) := by decide +kernel
theorem d_A_pick_173 : decode b_A_pick 173 = .ok (.invokevirtual 65, 3) := by decide +kernel
theorem d_A_pick_176 : decode b_A_pick 176 = .ok (.iload 9, 2) := by decide +kernel
theorem d_A_pick_178 : decode b_A_pick 178 = .ok (.ireturn, 1) := by decide +kernel
theorem d_M_answerFor_0 : decode b_M_answerFor 0 = .ok (.iload_n 1, 1) := by decide +kernel
theorem d_M_answerFor_1 : decode b_M_answerFor 1 = .ok (.iload_n 2, 1) := by decide +kernel
theorem d_M_answerFor_2 : decode b_M_answerFor 2 = .ok (.iload_n 3, 1) := by decide +kernel
theorem d_M_answerFor_3 : decode b_M_answerFor 3 = .ok (.invokestatic 22, 3) := by decide +kernel
theorem d_M_answerFor_6 : decode b_M_answerFor 6 = .ok (.istore 4, 2) := by decide +kernel
theorem d_M_answerFor_8 : decode b_M_answerFor 8 = .ok (.iload 4, 2) := by decide +kernel
theorem d_M_answerFor_10 : decode b_M_answerFor 10 = .ok (.ifCond .lt 31, 3) := by decide +kernel
theorem d_M_answerFor_13 : decode b_M_answerFor 13 = .ok (.iload 4, 2) := by decide +kernel
theorem d_M_answerFor_15 : decode b_M_answerFor 15 = .ok (.iconst 5, 1) := by decide +kernel
theorem d_M_answerFor_16 : decode b_M_answerFor 16 = .ok (.iadd, 1) := by decide +kernel
theorem d_M_answerFor_17 : decode b_M_answerFor 17 = .ok (.aload_n 0, 1) := by decide +kernel
theorem d_M_answerFor_18 : decode b_M_answerFor 18 = .ok (.getfield 11, 3) := by decide +kernel
theorem d_M_answerFor_21 : decode b_M_answerFor 21 = .ok (.arraylength, 1) := by decide +kernel
theorem d_M_answerFor_22 : decode b_M_answerFor 22 = .ok (.if_icmp .gt 19, 3) := by decide +kernel
theorem d_M_answerFor_25 : decode b_M_answerFor 25 = .ok (.aload_n 0, 1) := by decide +kernel
theorem d_M_answerFor_26 : decode b_M_answerFor 26 = .ok (.getfield 11, 3) := by decide +kernel
theorem d_M_answerFor_29 : decode b_M_answerFor 29 = .ok (.iload 4, 2) := by decide +kernel
theorem d_M_answerFor_31 : decode b_M_answerFor 31 = .ok (.iconst 3, 1) := by decide +kernel
theorem d_M_answerFor_32 : decode b_M_answerFor 32 = .ok (.iadd, 1) := by decide +kernel
theorem d_M_answerFor_33 : decode b_M_answerFor 33 = .ok (.iaload, 1) := by decide +kernel
theorem d_M_answerFor_34 : decode b_M_answerFor 34 = .ok (.aload_n 0, 1) := by decide +kernel
theorem d_M_answerFor_35 : decode b_M_answerFor 35 = .ok (.getfield 15, 3) := by decide +kernel
theorem d_M_answerFor_38 : decode b_M_answerFor 38 = .ok (.if_icmp .eq 5, 3) := by decide +kernel
theorem d_M_answerFor_41 : decode b_M_answerFor 41 = .ok (.iconst (-1), 1) := by decide +kernel
theorem d_M_answerFor_42 : decode b_M_answerFor 42 = .ok (.ireturn, 1) := by decide +kernel
theorem d_M_answerFor_43 : decode b_M_answerFor 43 = .ok (.aload_n 0, 1) := by decide +kernel
theorem d_M_answerFor_44 : decode b_M_answerFor 44 = .ok (.getfield 11, 3) := by decide +kernel
theorem d_M_answerFor_47 : decode b_M_answerFor 47 = .ok (.iload 4, 2) := by decide +kernel
theorem d_M_answerFor_49 : decode b_M_answerFor 49 = .ok (.iaload, 1) := by decide +kernel
theorem d_M_answerFor_50 : decode b_M_answerFor 50 = .ok (.iload_n 1, 1) := by decide +kernel
theorem d_M_answerFor_51 : decode b_M_answerFor 51 = .ok (.if_icmp .ne 33, 3) := by decide +kernel
theorem d_M_answerFor_54 : decode b_M_answerFor 54 = .ok (.aload_n 0, 1) := by decide +kernel
theorem d_M_answerFor_55 : decode b_M_answerFor 55 = .ok (.getfield 11, 3) := by decide +kernel
theorem d_M_answerFor_58 : decode b_M_answerFor 58 = .ok (.iload 4, 2) := by decide +kernel
theorem d_M_answerFor_60 : decode b_M_answerFor 60 = .ok (.iconst 1, 1) := by decide +kernel
theorem d_M_answerFor_61 : decode b_M_answerFor 61 = .ok (.iadd, 1) := by decide +kernel
theorem d_M_answerFor_62 : decode b_M_answerFor 62 = .ok (.iaload, 1) := by decide +kernel
theorem d_M_answerFor_63 : decode b_M_answerFor 63 = .ok (.iload_n 2, 1) := by decide +kernel
theorem d_M_answerFor_64 : decode b_M_answerFor 64 = .ok (.if_icmp .ne 20, 3) := by decide +kernel
theorem d_M_answerFor_67 : decode b_M_answerFor 67 = .ok (.aload_n 0, 1) := by decide +kernel
theorem d_M_answerFor_68 : decode b_M_answerFor 68 = .ok (.getfield 11, 3) := by decide +kernel
theorem d_M_answerFor_71 : decode b_M_answerFor 71 = .ok (.iload 4, 2) := by decide +kernel
theorem d_M_answerFor_73 : decode b_M_answerFor 73 = .ok (.iconst 2, 1) := by decide +kernel
theorem d_M_answerFor_74 : decode b_M_answerFor 74 = .ok (.iadd, 1) := by decide +kernel
theorem d_M_answerFor_75 : decode b_M_answerFor 75 = .ok (.iaload, 1) := by decide +kernel
theorem d_M_answerFor_76 : decode b_M_answerFor 76 = .ok (.iload_n 3, 1) := by decide +kernel
theorem d_M_answerFor_77 : decode b_M_answerFor 77 = .ok (.if_icmp .ne 7, 3) := by decide +kernel
theorem d_M_answerFor_80 : decode b_M_answerFor 80 = .ok (.iconst 1, 1) := by decide +kernel
theorem d_M_answerFor_81 : decode b_M_answerFor 81 = .ok (.goto 4, 3) := by decide +kernel
theorem d_M_answerFor_84 : decode b_M_answerFor 84 = .ok (.iconst 0, 1) := by decide +kernel
theorem d_M_answerFor_85 : decode b_M_answerFor 85 = .ok (.istore 5, 2) := by decide +kernel
theorem d_M_answerFor_87 : decode b_M_answerFor 87 = .ok (.iload 5, 2) := by decide +kernel
theorem d_M_answerFor_89 : decode b_M_answerFor 89 = .ok (.ifCond .eq 15, 3) := by decide +kernel
theorem d_M_answerFor_92 : decode b_M_answerFor 92 = .ok (.aload_n 0, 1) := by decide +kernel
theorem d_M_answerFor_93 : decode b_M_answerFor 93 = .ok (.getfield 11, 3) := by decide +kernel
theorem d_M_answerFor_96 : decode b_M_answerFor 96 = .ok (.iload 4, 2) := by decide +kernel
theorem d_M_answerFor_98 : decode b_M_answerFor 98 = .ok (.iconst 4, 1) := by decide +kernel
theorem d_M_answerFor_99 : decode b_M_answerFor 99 = .ok (.iadd, 1) := by decide +kernel
theorem d_M_answerFor_100 : decode b_M_answerFor 100 = .ok (.iaload, 1) := by decide +kernel
theorem d_M_answerFor_101 : decode b_M_answerFor 101 = .ok (.goto 4, 3) := by decide +kernel
theorem d_M_answerFor_104 : decode b_M_answerFor 104 = .ok (.iconst (-1), 1) := by decide +kernel
theorem d_M_answerFor_105 : decode b_M_answerFor 105 = .ok (.ireturn, 1) := by decide +kernel
theorem d_M_placeFor_0 : decode b_M_placeFor 0 = .ok (.iload_n 0, 1) := by decide +kernel
theorem d_M_placeFor_1 : decode b_M_placeFor 1 = .ok (.ldc 19, 2) := by decide +kernel
theorem d_M_placeFor_3 : decode b_M_placeFor 3 = .ok (.imul, 1) := by decide +kernel
theorem d_M_placeFor_4 : decode b_M_placeFor 4 = .ok (.iload_n 1, 1) := by decide +kernel
theorem d_M_placeFor_5 : decode b_M_placeFor 5 = .ok (.ldc 20, 2) := by decide +kernel
theorem d_M_placeFor_7 : decode b_M_placeFor 7 = .ok (.imul, 1) := by decide +kernel
theorem d_M_placeFor_8 : decode b_M_placeFor 8 = .ok (.iadd, 1) := by decide +kernel
theorem d_M_placeFor_9 : decode b_M_placeFor 9 = .ok (.iload_n 2, 1) := by decide +kernel
theorem d_M_placeFor_10 : decode b_M_placeFor 10 = .ok (.ldc 21, 2) := by decide +kernel
theorem d_M_placeFor_12 : decode b_M_placeFor 12 = .ok (.imul, 1) := by decide +kernel
theorem d_M_placeFor_13 : decode b_M_placeFor 13 = .ok (.iadd, 1) := by decide +kernel
theorem d_M_placeFor_14 : decode b_M_placeFor 14 = .ok (.istore_n 3, 1) := by decide +kernel
theorem d_M_placeFor_15 : decode b_M_placeFor 15 = .ok (.iload_n 3, 1) := by decide +kernel
theorem d_M_placeFor_16 : decode b_M_placeFor 16 = .ok (.bipush 20, 2) := by decide +kernel
theorem d_M_placeFor_18 : decode b_M_placeFor 18 = .ok (.iushr, 1) := by decide +kernel
theorem d_M_placeFor_19 : decode b_M_placeFor 19 = .ok (.sipush 1023, 3) := by decide +kernel
theorem d_M_placeFor_22 : decode b_M_placeFor 22 = .ok (.iand, 1) := by decide +kernel
theorem d_M_placeFor_23 : decode b_M_placeFor 23 = .ok (.iconst 5, 1) := by decide +kernel
theorem d_M_placeFor_24 : decode b_M_placeFor 24 = .ok (.imul, 1) := by decide +kernel
theorem d_M_placeFor_25 : decode b_M_placeFor 25 = .ok (.ireturn, 1) := by decide +kernel
theorem d_N_firstAsked_0 : decode b_N_firstAsked 0 = .ok (.aload_n 0, 1) := by decide +kernel
theorem d_N_firstAsked_1 : decode b_N_firstAsked 1 = .ok (.aload_n 0, 1) := by decide +kernel
theorem d_N_firstAsked_2 : decode b_N_firstAsked 2 = .ok (.iload_n 1, 1) := by decide +kernel
theorem d_N_firstAsked_3 : decode b_N_firstAsked 3 = .ok (.invokevirtual 50, 3) := by decide +kernel
theorem d_N_firstAsked_6 : decode b_N_firstAsked 6 = .ok (.invokevirtual 54, 3) := by decide +kernel
theorem d_N_firstAsked_9 : decode b_N_firstAsked 9 = .ok (.aload_n 0, 1) := by decide +kernel
theorem d_N_firstAsked_10 : decode b_N_firstAsked 10 = .ok (.aload_n 0, 1) := by decide +kernel
theorem d_N_firstAsked_11 : decode b_N_firstAsked 11 = .ok (.iload_n 2, 1) := by decide +kernel
theorem d_N_firstAsked_12 : decode b_N_firstAsked 12 = .ok (.invokevirtual 50, 3) := by decide +kernel
theorem d_N_firstAsked_15 : decode b_N_firstAsked 15 = .ok (.invokevirtual 54, 3) := by decide +kernel
theorem d_N_firstAsked_18 : decode b_N_firstAsked 18 = .ok (.invokestatic 57, 3) := by decide +kernel
theorem d_N_firstAsked_21 : decode b_N_firstAsked 21 = .ok (.istore 4, 2) := by decide +kernel
theorem d_N_firstAsked_23 : decode b_N_firstAsked 23 = .ok (.aload_n 0, 1) := by decide +kernel
theorem d_N_firstAsked_24 : decode b_N_firstAsked 24 = .ok (.iload 4, 2) := by decide +kernel
theorem d_N_firstAsked_26 : decode b_N_firstAsked 26 = .ok (.aload_n 0, 1) := by decide +kernel
theorem d_N_firstAsked_27 : decode b_N_firstAsked 27 = .ok (.aload_n 0, 1) := by decide +kernel
theorem d_N_firstAsked_28 : decode b_N_firstAsked 28 = .ok (.iload_n 3, 1) := by decide +kernel
theorem d_N_firstAsked_29 : decode b_N_firstAsked 29 = .ok (.invokevirtual 50, 3) := by decide +kernel
theorem d_N_firstAsked_32 : decode b_N_firstAsked 32 = .ok (.invokevirtual 54, 3) := by decide +kernel
theorem d_N_firstAsked_35 : decode b_N_firstAsked 35 = .ok (.invokestatic 57, 3) := by decide +kernel
theorem d_N_firstAsked_38 : decode b_N_firstAsked 38 = .ok (.invokevirtual 62, 3) := by decide +kernel
theorem d_N_firstAsked_41 : decode b_N_firstAsked 41 = .ok (.ireturn, 1) := by decide +kernel
theorem d_N_lowFor_0 : decode b_N_lowFor 0 = .ok (.aload_n 0, 1) := by decide +kernel
theorem d_N_lowFor_1 : decode b_N_lowFor 1 = .ok (.iload_n 1, 1) := by decide +kernel
theorem d_N_lowFor_2 : decode b_N_lowFor 2 = .ok (.iconst 0, 1) := by decide +kernel
theorem d_N_lowFor_3 : decode b_N_lowFor 3 = .ok (.invokevirtual 46, 3) := by decide +kernel
theorem d_N_lowFor_6 : decode b_N_lowFor 6 = .ok (.iload_n 2, 1) := by decide +kernel
theorem d_N_lowFor_7 : decode b_N_lowFor 7 = .ok (.if_icmp .ne 12, 3) := by decide +kernel
theorem d_N_lowFor_10 : decode b_N_lowFor 10 = .ok (.aload_n 0, 1) := by decide +kernel
theorem d_N_lowFor_11 : decode b_N_lowFor 11 = .ok (.iload_n 1, 1) := by decide +kernel
theorem d_N_lowFor_12 : decode b_N_lowFor 12 = .ok (.iconst 1, 1) := by decide +kernel
theorem d_N_lowFor_13 : decode b_N_lowFor 13 = .ok (.invokevirtual 46, 3) := by decide +kernel
theorem d_N_lowFor_16 : decode b_N_lowFor 16 = .ok (.goto 4, 3) := by decide +kernel
theorem d_N_lowFor_19 : decode b_N_lowFor 19 = .ok (.iload_n 1, 1) := by decide +kernel
theorem d_N_lowFor_20 : decode b_N_lowFor 20 = .ok (.ireturn, 1) := by decide +kernel
theorem d_N_highFor_0 : decode b_N_highFor 0 = .ok (.aload_n 0, 1) := by decide +kernel
theorem d_N_highFor_1 : decode b_N_highFor 1 = .ok (.iload_n 1, 1) := by decide +kernel
theorem d_N_highFor_2 : decode b_N_highFor 2 = .ok (.iconst 0, 1) := by decide +kernel
theorem d_N_highFor_3 : decode b_N_highFor 3 = .ok (.invokevirtual 46, 3) := by decide +kernel
theorem d_N_highFor_6 : decode b_N_highFor 6 = .ok (.iload_n 2, 1) := by decide +kernel
theorem d_N_highFor_7 : decode b_N_highFor 7 = .ok (.if_icmp .ne 12, 3) := by decide +kernel
theorem d_N_highFor_10 : decode b_N_highFor 10 = .ok (.aload_n 0, 1) := by decide +kernel
theorem d_N_highFor_11 : decode b_N_highFor 11 = .ok (.iload_n 1, 1) := by decide +kernel
theorem d_N_highFor_12 : decode b_N_highFor 12 = .ok (.iconst 2, 1) := by decide +kernel
theorem d_N_highFor_13 : decode b_N_highFor 13 = .ok (.invokevirtual 46, 3) := by decide +kernel
theorem d_N_highFor_16 : decode b_N_highFor 16 = .ok (.goto 4, 3) := by decide +kernel
theorem d_N_highFor_19 : decode b_N_highFor 19 = .ok (.iload_n 1, 1) := by decide +kernel
theorem d_N_highFor_20 : decode b_N_highFor 20 = .ok (.ireturn, 1) := by decide +kernel
theorem d_M_keep_0 : decode b_M_keep 0 = .ok (.iload_n 1, 1) := by decide +kernel
theorem d_M_keep_1 : decode b_M_keep 1 = .ok (.iload_n 2, 1) := by decide +kernel
theorem d_M_keep_2 : decode b_M_keep 2 = .ok (.iload_n 3, 1) := by decide +kernel
theorem d_M_keep_3 : decode b_M_keep 3 = .ok (.invokestatic 22, 3) := by decide +kernel
theorem d_M_keep_6 : decode b_M_keep 6 = .ok (.istore 5, 2) := by decide +kernel
theorem d_M_keep_8 : decode b_M_keep 8 = .ok (.iload 5, 2) := by decide +kernel
theorem d_M_keep_10 : decode b_M_keep 10 = .ok (.ifCond .lt 15, 3) := by decide +kernel
theorem d_M_keep_13 : decode b_M_keep 13 = .ok (.iload 5, 2) := by decide +kernel
theorem d_M_keep_15 : decode b_M_keep 15 = .ok (.iconst 5, 1) := by decide +kernel
theorem d_M_keep_16 : decode b_M_keep 16 = .ok (.iadd, 1) := by decide +kernel
theorem d_M_keep_17 : decode b_M_keep 17 = .ok (.aload_n 0, 1) := by decide +kernel
theorem d_M_keep_18 : decode b_M_keep 18 = .ok (.getfield 11, 3) := by decide +kernel
theorem d_M_keep_21 : decode b_M_keep 21 = .ok (.arraylength, 1) := by decide +kernel
theorem d_M_keep_22 : decode b_M_keep 22 = .ok (.if_icmp .le 4, 3) := by decide +kernel
theorem d_M_keep_25 : decode b_M_keep 25 = .ok (.return_, 1) := by decide +kernel
theorem d_M_keep_26 : decode b_M_keep 26 = .ok (.aload_n 0, 1) := by decide +kernel
theorem d_M_keep_27 : decode b_M_keep 27 = .ok (.getfield 11, 3) := by decide +kernel
theorem d_M_keep_30 : decode b_M_keep 30 = .ok (.iload 5, 2) := by decide +kernel
theorem d_M_keep_32 : decode b_M_keep 32 = .ok (.iload_n 1, 1) := by decide +kernel
theorem d_M_keep_33 : decode b_M_keep 33 = .ok (.iastore, 1) := by decide +kernel
theorem d_M_keep_34 : decode b_M_keep 34 = .ok (.aload_n 0, 1) := by decide +kernel
theorem d_M_keep_35 : decode b_M_keep 35 = .ok (.getfield 11, 3) := by decide +kernel
theorem d_M_keep_38 : decode b_M_keep 38 = .ok (.iload 5, 2) := by decide +kernel
theorem d_M_keep_40 : decode b_M_keep 40 = .ok (.iconst 1, 1) := by decide +kernel
theorem d_M_keep_41 : decode b_M_keep 41 = .ok (.iadd, 1) := by decide +kernel
theorem d_M_keep_42 : decode b_M_keep 42 = .ok (.iload_n 2, 1) := by decide +kernel
theorem d_M_keep_43 : decode b_M_keep 43 = .ok (.iastore, 1) := by decide +kernel
theorem d_M_keep_44 : decode b_M_keep 44 = .ok (.aload_n 0, 1) := by decide +kernel
theorem d_M_keep_45 : decode b_M_keep 45 = .ok (.getfield 11, 3) := by decide +kernel
theorem d_M_keep_48 : decode b_M_keep 48 = .ok (.iload 5, 2) := by decide +kernel
theorem d_M_keep_50 : decode b_M_keep 50 = .ok (.iconst 2, 1) := by decide +kernel
theorem d_M_keep_51 : decode b_M_keep 51 = .ok (.iadd, 1) := by decide +kernel
theorem d_M_keep_52 : decode b_M_keep 52 = .ok (.iload_n 3, 1) := by decide +kernel
theorem d_M_keep_53 : decode b_M_keep 53 = .ok (.iastore, 1) := by decide +kernel
theorem d_M_keep_54 : decode b_M_keep 54 = .ok (.aload_n 0, 1) := by decide +kernel
theorem d_M_keep_55 : decode b_M_keep 55 = .ok (.getfield 11, 3) := by decide +kernel
theorem d_M_keep_58 : decode b_M_keep 58 = .ok (.iload 5, 2) := by decide +kernel
theorem d_M_keep_60 : decode b_M_keep 60 = .ok (.iconst 3, 1) := by decide +kernel
theorem d_M_keep_61 : decode b_M_keep 61 = .ok (.iadd, 1) := by decide +kernel
theorem d_M_keep_62 : decode b_M_keep 62 = .ok (.aload_n 0, 1) := by decide +kernel
theorem d_M_keep_63 : decode b_M_keep 63 = .ok (.getfield 15, 3) := by decide +kernel
theorem d_M_keep_66 : decode b_M_keep 66 = .ok (.iastore, 1) := by decide +kernel
theorem d_M_keep_67 : decode b_M_keep 67 = .ok (.aload_n 0, 1) := by decide +kernel
theorem d_M_keep_68 : decode b_M_keep 68 = .ok (.getfield 11, 3) := by decide +kernel
theorem d_M_keep_71 : decode b_M_keep 71 = .ok (.iload 5, 2) := by decide +kernel
theorem d_M_keep_73 : decode b_M_keep 73 = .ok (.iconst 4, 1) := by decide +kernel
theorem d_M_keep_74 : decode b_M_keep 74 = .ok (.iadd, 1) := by decide +kernel
theorem d_M_keep_75 : decode b_M_keep 75 = .ok (.iload 4, 2) := by decide +kernel
theorem d_M_keep_77 : decode b_M_keep 77 = .ok (.iastore, 1) := by decide +kernel
theorem d_M_keep_78 : decode b_M_keep 78 = .ok (.return_, 1) := by decide +kernel
theorem d_S_join_0 : decode b_S_join 0 = .ok (.iload_n 1, 1) := by decide +kernel
theorem d_S_join_1 : decode b_S_join 1 = .ok (.invokestatic 42, 3) := by decide +kernel
theorem d_S_join_4 : decode b_S_join 4 = .ok (.iload_n 2, 1) := by decide +kernel
theorem d_S_join_5 : decode b_S_join 5 = .ok (.iconst 5, 1) := by decide +kernel
theorem d_S_join_6 : decode b_S_join 6 = .ok (.invokestatic 50, 3) := by decide +kernel
theorem d_S_join_9 : decode b_S_join 9 = .ok (.iload_n 3, 1) := by decide +kernel
theorem d_S_join_10 : decode b_S_join 10 = .ok (.invokestatic 42, 3) := by decide +kernel
theorem d_S_join_13 : decode b_S_join 13 = .ok (.iload 4, 2) := by decide +kernel
theorem d_S_join_15 : decode b_S_join 15 = .ok (.invokestatic 42, 3) := by decide +kernel
theorem d_S_join_18 : decode b_S_join 18 = .ok (.aload_n 0, 1) := by decide +kernel
theorem d_S_join_19 : decode b_S_join 19 = .ok (.iload_n 1, 1) := by decide +kernel
theorem d_S_join_20 : decode b_S_join 20 = .ok (.aload_n 0, 1) := by decide +kernel
theorem d_S_join_21 : decode b_S_join 21 = .ok (.getfield 31, 3) := by decide +kernel
theorem d_S_join_24 : decode b_S_join 24 = .ok (.iload_n 2, 1) := by decide +kernel
theorem d_S_join_25 : decode b_S_join 25 = .ok (.aload_n 0, 1) := by decide +kernel
theorem d_S_join_26 : decode b_S_join 26 = .ok (.getfield 9, 3) := by decide +kernel
theorem d_S_join_29 : decode b_S_join 29 = .ok (.iload_n 3, 1) := by decide +kernel
theorem d_S_join_30 : decode b_S_join 30 = .ok (.iaload, 1) := by decide +kernel
theorem d_S_join_31 : decode b_S_join 31 = .ok (.aload_n 0, 1) := by decide +kernel
theorem d_S_join_32 : decode b_S_join 32 = .ok (.getfield 9, 3) := by decide +kernel
theorem d_S_join_35 : decode b_S_join 35 = .ok (.iload 4, 2) := by decide +kernel
theorem d_S_join_37 : decode b_S_join 37 = .ok (.iaload, 1) := by decide +kernel
theorem d_S_join_38 : decode b_S_join 38 = .ok (.invokevirtual 62, 3) := by decide +kernel
theorem d_S_join_41 : decode b_S_join 41 = .ok (.invokevirtual 46, 3) := by decide +kernel
theorem d_S_join_44 : decode b_S_join 44 = .ok (.ireturn, 1) := by decide +kernel
theorem d_A_joined_0 : decode b_A_joined 0 = .ok (.aload_n 0, 1) := by decide +kernel
theorem d_A_joined_1 : decode b_A_joined 1 = .ok (.sipush 1530, 3) := by decide +kernel
theorem d_A_joined_4 : decode b_A_joined 4 = .ok (.invokevirtual 31, 3) := by decide +kernel
theorem d_A_joined_7 : decode b_A_joined 7 = .ok (.iload_n 1, 1) := by decide +kernel
theorem d_A_joined_8 : decode b_A_joined 8 = .ok (.tableswitch 75 0 3 #[32, 41, 50, 66], 32) := by decide +kernel
theorem d_A_joined_40 : decode b_A_joined 40 = .ok (.aload_n 0, 1) := by decide +kernel
theorem d_A_joined_41 : decode b_A_joined 41 = .ok (.iload_n 2, 1) := by decide +kernel
theorem d_A_joined_42 : decode b_A_joined 42 = .ok (.iload_n 3, 1) := by decide +kernel
theorem d_A_joined_43 : decode b_A_joined 43 = .ok (.iconst 0, 1) := by decide +kernel
theorem d_A_joined_44 : decode b_A_joined 44 = .ok (.iconst 0, 1) := by decide +kernel
theorem d_A_joined_45 : decode b_A_joined 45 = .ok (.invokevirtual 38, 3) := by decide +kernel
theorem d_A_joined_48 : decode b_A_joined 48 = .ok (.ireturn, 1) := by decide +kernel
theorem d_A_joined_49 : decode b_A_joined 49 = .ok (.aload_n 0, 1) := by decide +kernel
theorem d_A_joined_50 : decode b_A_joined 50 = .ok (.iload_n 2, 1) := by decide +kernel
theorem d_A_joined_51 : decode b_A_joined 51 = .ok (.iconst 1, 1) := by decide +kernel
theorem d_A_joined_52 : decode b_A_joined 52 = .ok (.iload_n 3, 1) := by decide +kernel
theorem d_A_joined_53 : decode b_A_joined 53 = .ok (.iconst 0, 1) := by decide +kernel
theorem d_A_joined_54 : decode b_A_joined 54 = .ok (.invokevirtual 38, 3) := by decide +kernel
theorem d_A_joined_57 : decode b_A_joined 57 = .ok (.ireturn, 1) := by decide +kernel
theorem d_A_joined_58 : decode b_A_joined 58 = .ok (.aload_n 0, 1) := by decide +kernel
theorem d_A_joined_59 : decode b_A_joined 59 = .ok (.iload_n 2, 1) := by decide +kernel
theorem d_A_joined_60 : decode b_A_joined 60 = .ok (.aload_n 0, 1) := by decide +kernel
theorem d_A_joined_61 : decode b_A_joined 61 = .ok (.iload_n 3, 1) := by decide +kernel
theorem d_A_joined_62 : decode b_A_joined 62 = .ok (.iconst 0, 1) := by decide +kernel
theorem d_A_joined_63 : decode b_A_joined 63 = .ok (.iconst 1, 1) := by decide +kernel
theorem d_A_joined_64 : decode b_A_joined 64 = .ok (.iconst 0, 1) := by decide +kernel
theorem d_A_joined_65 : decode b_A_joined 65 = .ok (.invokevirtual 38, 3) := by decide +kernel
theorem d_A_joined_68 : decode b_A_joined 68 = .ok (.iload_n 3, 1) := by decide +kernel
theorem d_A_joined_69 : decode b_A_joined 69 = .ok (.iconst 0, 1) := by decide +kernel
theorem d_A_joined_70 : decode b_A_joined 70 = .ok (.invokevirtual 38, 3) := by decide +kernel
theorem d_A_joined_73 : decode b_A_joined 73 = .ok (.ireturn, 1) := by decide +kernel
theorem d_A_joined_74 : decode b_A_joined 74 = .ok (.aload_n 0, 1) := by decide +kernel
theorem d_A_joined_75 : decode b_A_joined 75 = .ok (.iload_n 3, 1) := by decide +kernel
theorem d_A_joined_76 : decode b_A_joined 76 = .ok (.iconst 0, 1) := by decide +kernel
theorem d_A_joined_77 : decode b_A_joined 77 = .ok (.iload_n 2, 1) := by decide +kernel
theorem d_A_joined_78 : decode b_A_joined 78 = .ok (.iconst 0, 1) := by decide +kernel
theorem d_A_joined_79 : decode b_A_joined 79 = .ok (.invokevirtual 38, 3) := by decide +kernel
theorem d_A_joined_82 : decode b_A_joined 82 = .ok (.ireturn, 1) := by decide +kernel
theorem d_A_joined_83 : decode b_A_joined 83 = .ok (.aload_n 0, 1) := by decide +kernel
theorem d_A_joined_84 : decode b_A_joined 84 = .ok (.iload_n 2, 1) := by decide +kernel
theorem d_A_joined_85 : decode b_A_joined 85 = .ok (.iconst 0, 1) := by decide +kernel
theorem d_A_joined_86 : decode b_A_joined 86 = .ok (.iconst 1, 1) := by decide +kernel
theorem d_A_joined_87 : decode b_A_joined 87 = .ok (.iconst 0, 1) := by decide +kernel
theorem d_A_joined_88 : decode b_A_joined 88 = .ok (.invokevirtual 38, 3) := by decide +kernel
theorem d_A_joined_91 : decode b_A_joined 91 = .ok (.ireturn, 1) := by decide +kernel
theorem d_S_some_0 : decode b_S_some 0 = .ok (.iload_n 1, 1) := by decide +kernel
theorem d_S_some_1 : decode b_S_some 1 = .ok (.invokestatic 42, 3) := by decide +kernel
theorem d_S_some_4 : decode b_S_some 4 = .ok (.iload_n 2, 1) := by decide +kernel
theorem d_S_some_5 : decode b_S_some 5 = .ok (.invokestatic 42, 3) := by decide +kernel
theorem d_S_some_8 : decode b_S_some 8 = .ok (.iload_n 3, 1) := by decide +kernel
theorem d_S_some_9 : decode b_S_some 9 = .ok (.invokestatic 42, 3) := by decide +kernel
theorem d_S_some_12 : decode b_S_some 12 = .ok (.iload 4, 2) := by decide +kernel
theorem d_S_some_14 : decode b_S_some 14 = .ok (.sipush 4096, 3) := by decide +kernel
theorem d_S_some_17 : decode b_S_some 17 = .ok (.invokestatic 50, 3) := by decide +kernel
theorem d_S_some_20 : decode b_S_some 20 = .ok (.aload_n 0, 1) := by decide +kernel
theorem d_S_some_21 : decode b_S_some 21 = .ok (.iload_n 1, 1) := by decide +kernel
theorem d_S_some_22 : decode b_S_some 22 = .ok (.aload_n 0, 1) := by decide +kernel
theorem d_S_some_23 : decode b_S_some 23 = .ok (.getfield 31, 3) := by decide +kernel
theorem d_S_some_26 : decode b_S_some 26 = .ok (.aload_n 0, 1) := by decide +kernel
theorem d_S_some_27 : decode b_S_some 27 = .ok (.getfield 9, 3) := by decide +kernel
theorem d_S_some_30 : decode b_S_some 30 = .ok (.iload_n 2, 1) := by decide +kernel
theorem d_S_some_31 : decode b_S_some 31 = .ok (.iaload, 1) := by decide +kernel
theorem d_S_some_32 : decode b_S_some 32 = .ok (.aload_n 0, 1) := by decide +kernel
theorem d_S_some_33 : decode b_S_some 33 = .ok (.getfield 9, 3) := by decide +kernel
theorem d_S_some_36 : decode b_S_some 36 = .ok (.iload_n 3, 1) := by decide +kernel
theorem d_S_some_37 : decode b_S_some 37 = .ok (.iaload, 1) := by decide +kernel
theorem d_S_some_38 : decode b_S_some 38 = .ok (.iload 4, 2) := by decide +kernel
theorem d_S_some_40 : decode b_S_some 40 = .ok (.invokevirtual 65, 3) := by decide +kernel
theorem d_S_some_43 : decode b_S_some 43 = .ok (.invokevirtual 46, 3) := by decide +kernel
theorem d_S_some_46 : decode b_S_some 46 = .ok (.ireturn, 1) := by decide +kernel
theorem d_A_bothForSome_0 : decode b_A_bothForSome 0 = .ok (.aload_n 0, 1) := by decide +kernel
theorem d_A_bothForSome_1 : decode b_A_bothForSome 1 = .ok (.sipush 3323, 3) := by decide +kernel
theorem d_A_bothForSome_4 : decode b_A_bothForSome 4 = .ok (.invokevirtual 31, 3) := by decide +kernel
theorem d_A_bothForSome_7 : decode b_A_bothForSome 7 = .ok (.aload_n 0, 1) := by decide +kernel
theorem d_A_bothForSome_8 : decode b_A_bothForSome 8 = .ok (.aload_n 0, 1) := by decide +kernel
theorem d_A_bothForSome_9 : decode b_A_bothForSome 9 = .ok (.iload_n 1, 1) := by decide +kernel
theorem d_A_bothForSome_10 : decode b_A_bothForSome 10 = .ok (.iload_n 2, 1) := by decide +kernel
theorem d_A_bothForSome_11 : decode b_A_bothForSome 11 = .ok (.iconst 0, 1) := by decide +kernel
theorem d_A_bothForSome_12 : decode b_A_bothForSome 12 = .ok (.iconst 0, 1) := by decide +kernel
theorem d_A_bothForSome_13 : decode b_A_bothForSome 13 = .ok (.invokevirtual 38, 3) := by decide +kernel
theorem d_A_bothForSome_16 : decode b_A_bothForSome 16 = .ok (.iload_n 3, 1) := by decide +kernel
theorem d_A_bothForSome_17 : decode b_A_bothForSome 17 = .ok (.iconst 0, 1) := by decide +kernel
theorem d_A_bothForSome_18 : decode b_A_bothForSome 18 = .ok (.invokevirtual 42, 3) := by decide +kernel
theorem d_A_bothForSome_21 : decode b_A_bothForSome 21 = .ok (.ireturn, 1) := by decide +kernel
theorem d_A_freed_0 : decode b_A_freed 0 = .ok (.iload_n 1, 1) := by decide +kernel
theorem d_A_freed_1 : decode b_A_freed 1 = .ok (.iconst 1, 1) := by decide +kernel
theorem d_A_freed_2 : decode b_A_freed 2 = .ok (.if_icmp .le 9, 3) := by decide +kernel
theorem d_A_freed_5 : decode b_A_freed 5 = .ok (.iload_n 3, 1) := by decide +kernel
theorem d_A_freed_6 : decode b_A_freed 6 = .ok (.bipush 12, 2) := by decide +kernel
theorem d_A_freed_8 : decode b_A_freed 8 = .ok (.if_icmp .lt 5, 3) := by decide +kernel
theorem d_A_freed_11 : decode b_A_freed 11 = .ok (.iload_n 1, 1) := by decide +kernel
theorem d_A_freed_12 : decode b_A_freed 12 = .ok (.ireturn, 1) := by decide +kernel
theorem d_A_freed_13 : decode b_A_freed 13 = .ok (.aload_n 0, 1) := by decide +kernel
theorem d_A_freed_14 : decode b_A_freed 14 = .ok (.getfield 18, 3) := by decide +kernel
theorem d_A_freed_17 : decode b_A_freed 17 = .ok (.iload_n 1, 1) := by decide +kernel
theorem d_A_freed_18 : decode b_A_freed 18 = .ok (.iload_n 2, 1) := by decide +kernel
theorem d_A_freed_19 : decode b_A_freed 19 = .ok (.iconst (-1), 1) := by decide +kernel
theorem d_A_freed_20 : decode b_A_freed 20 = .ok (.invokevirtual 53, 3) := by decide +kernel
theorem d_A_freed_23 : decode b_A_freed 23 = .ok (.istore 4, 2) := by decide +kernel
theorem d_A_freed_25 : decode b_A_freed 25 = .ok (.iload 4, 2) := by decide +kernel
theorem d_A_freed_27 : decode b_A_freed 27 = .ok (.iconst (-1), 1) := by decide +kernel
theorem d_A_freed_28 : decode b_A_freed 28 = .ok (.if_icmp .eq 6, 3) := by decide +kernel
theorem d_A_freed_31 : decode b_A_freed 31 = .ok (.iload 4, 2) := by decide +kernel
theorem d_A_freed_33 : decode b_A_freed 33 = .ok (.ireturn, 1) := by decide +kernel
theorem d_A_freed_34 : decode b_A_freed 34 = .ok (.aload_n 0, 1) := by decide +kernel
theorem d_A_freed_35 : decode b_A_freed 35 = .ok (.getfield 9, 3) := by decide +kernel
theorem d_A_freed_38 : decode b_A_freed 38 = .ok (.iload_n 1, 1) := by decide +kernel
theorem d_A_freed_39 : decode b_A_freed 39 = .ok (.invokevirtual 69, 3) := by decide +kernel
theorem d_A_freed_42 : decode b_A_freed 42 = .ok (.istore 5, 2) := by decide +kernel
theorem d_A_freed_44 : decode b_A_freed 44 = .ok (.aload_n 0, 1) := by decide +kernel
theorem d_A_freed_45 : decode b_A_freed 45 = .ok (.aload_n 0, 1) := by decide +kernel
theorem d_A_freed_46 : decode b_A_freed 46 = .ok (.getfield 9, 3) := by decide +kernel
theorem d_A_freed_49 : decode b_A_freed 49 = .ok (.iload_n 1, 1) := by decide +kernel
theorem d_A_freed_50 : decode b_A_freed 50 = .ok (.iload 5, 2) := by decide +kernel
theorem d_A_freed_52 : decode b_A_freed 52 = .ok (.invokevirtual 59, 3) := by decide +kernel
theorem d_A_freed_55 : decode b_A_freed 55 = .ok (.iload_n 2, 1) := by decide +kernel
theorem d_A_freed_56 : decode b_A_freed 56 = .ok (.iload_n 3, 1) := by decide +kernel
theorem d_A_freed_57 : decode b_A_freed 57 = .ok (.iconst 1, 1) := by decide +kernel
theorem d_A_freed_58 : decode b_A_freed 58 = .ok (.iadd, 1) := by decide +kernel
theorem d_A_freed_59 : decode b_A_freed 59 = .ok (.invokevirtual 42, 3) := by decide +kernel
theorem d_A_freed_62 : decode b_A_freed 62 = .ok (.istore 6, 2) := by decide +kernel
theorem d_A_freed_64 : decode b_A_freed 64 = .ok (.aload_n 0, 1) := by decide +kernel
theorem d_A_freed_65 : decode b_A_freed 65 = .ok (.aload_n 0, 1) := by decide +kernel
theorem d_A_freed_66 : decode b_A_freed 66 = .ok (.getfield 9, 3) := by decide +kernel
theorem d_A_freed_69 : decode b_A_freed 69 = .ok (.iload_n 1, 1) := by decide +kernel
theorem d_A_freed_70 : decode b_A_freed 70 = .ok (.iload 5, 2) := by decide +kernel
theorem d_A_freed_72 : decode b_A_freed 72 = .ok (.invokevirtual 62, 3) := by decide +kernel
theorem d_A_freed_75 : decode b_A_freed 75 = .ok (.iload_n 2, 1) := by decide +kernel
theorem d_A_freed_76 : decode b_A_freed 76 = .ok (.iload_n 3, 1) := by decide +kernel
theorem d_A_freed_77 : decode b_A_freed 77 = .ok (.iconst 1, 1) := by decide +kernel
theorem d_A_freed_78 : decode b_A_freed 78 = .ok (.iadd, 1) := by decide +kernel
theorem d_A_freed_79 : decode b_A_freed 79 = .ok (.invokevirtual 42, 3) := by decide +kernel
theorem d_A_freed_82 : decode b_A_freed 82 = .ok (.istore 7, 2) := by decide +kernel
theorem d_A_freed_84 : decode b_A_freed 84 = .ok (.iload_n 2, 1) := by decide +kernel
theorem d_A_freed_85 : decode b_A_freed 85 = .ok (.iload 5, 2) := by decide +kernel
theorem d_A_freed_87 : decode b_A_freed 87 = .ok (.ishr, 1) := by decide +kernel
theorem d_A_freed_88 : decode b_A_freed 88 = .ok (.iconst 1, 1) := by decide +kernel
theorem d_A_freed_89 : decode b_A_freed 89 = .ok (.iand, 1) := by decide +kernel
theorem d_A_freed_90 : decode b_A_freed 90 = .ok (.ifCond .eq 7, 3) := by decide +kernel
theorem d_A_freed_93 : decode b_A_freed 93 = .ok (.iconst 1, 1) := by decide +kernel
theorem d_A_freed_94 : decode b_A_freed 94 = .ok (.goto 4, 3) := by decide +kernel
theorem d_A_freed_97 : decode b_A_freed 97 = .ok (.iconst 0, 1) := by decide +kernel
theorem d_A_freed_98 : decode b_A_freed 98 = .ok (.istore 8, 2) := by decide +kernel
theorem d_A_freed_100 : decode b_A_freed 100 = .ok (.iload 8, 2) := by decide +kernel
theorem d_A_freed_102 : decode b_A_freed 102 = .ok (.ifCond .eq 18, 3) := by decide +kernel
theorem d_A_freed_105 : decode b_A_freed 105 = .ok (.aload_n 0, 1) := by decide +kernel
theorem d_A_freed_106 : decode b_A_freed 106 = .ok (.iload 6, 2) := by decide +kernel
theorem d_A_freed_108 : decode b_A_freed 108 = .ok (.iconst 1, 1) := by decide +kernel
theorem d_A_freed_109 : decode b_A_freed 109 = .ok (.iload 7, 2) := by decide +kernel
theorem d_A_freed_111 : decode b_A_freed 111 = .ok (.iload_n 3, 1) := by decide +kernel
theorem d_A_freed_112 : decode b_A_freed 112 = .ok (.iconst 1, 1) := by decide +kernel
theorem d_A_freed_113 : decode b_A_freed 113 = .ok (.iadd, 1) := by decide +kernel
theorem d_A_freed_114 : decode b_A_freed 114 = .ok (.invokevirtual 38, 3) := by decide +kernel
theorem d_A_freed_117 : decode b_A_freed 117 = .ok (.goto 16, 3) := by decide +kernel
theorem d_A_freed_120 : decode b_A_freed 120 = .ok (.aload_n 0, 1) := by decide +kernel
theorem d_A_freed_121 : decode b_A_freed 121 = .ok (.getfield 9, 3) := by decide +kernel
theorem d_A_freed_124 : decode b_A_freed 124 = .ok (.iload 5, 2) := by decide +kernel
theorem d_A_freed_126 : decode b_A_freed 126 = .ok (.iload 6, 2) := by decide +kernel
theorem d_A_freed_128 : decode b_A_freed 128 = .ok (.iload 7, 2) := by decide +kernel
theorem d_A_freed_130 : decode b_A_freed 130 = .ok (.invokevirtual 34, 3) := by decide +kernel
theorem d_A_freed_133 : decode b_A_freed 133 = .ok (.istore 9, 2) := by decide +kernel
theorem d_A_freed_135 : decode b_A_freed 135 = .ok (.aload_n 0, 1) := by decide +kernel
theorem d_A_freed_136 : decode b_A_freed 136 = .ok (.getfield 18, 3) := by decide +kernel
theorem d_A_freed_139 : decode b_A_freed 139 = .ok (.iload_n 1, 1) := by decide +kernel
theorem d_A_freed_140 : decode b_A_freed 140 = .ok (.iload_n 2, 1) := by decide +kernel
theorem d_A_freed_141 : decode b_A_freed 141 = .ok (.iconst (-1), 1) := by decide +kernel
theorem d_A_freed_142 : decode b_A_freed 142 = .ok (.iload 9, 2) := by decide +kernel
theorem d_A_freed_144 : decode b_A_freed 144 = .ok (.invokevirtual 65, 3) := by decide +kernel
theorem d_A_freed_147 : decode b_A_freed 147 = .ok (.iload 9, 2) := by decide +kernel
theorem d_A_freed_149 : decode b_A_freed 149 = .ok (.ireturn, 1) := by decide +kernel
theorem d_S_turn_0 : decode b_S_turn 0 = .ok (.iload_n 1, 1) := by decide +kernel
theorem d_S_turn_1 : decode b_S_turn 1 = .ok (.invokestatic 42, 3) := by decide +kernel
theorem d_S_turn_4 : decode b_S_turn 4 = .ok (.iload_n 2, 1) := by decide +kernel
theorem d_S_turn_5 : decode b_S_turn 5 = .ok (.invokestatic 42, 3) := by decide +kernel
theorem d_S_turn_8 : decode b_S_turn 8 = .ok (.aload_n 0, 1) := by decide +kernel
theorem d_S_turn_9 : decode b_S_turn 9 = .ok (.iload_n 1, 1) := by decide +kernel
theorem d_S_turn_10 : decode b_S_turn 10 = .ok (.aload_n 0, 1) := by decide +kernel
theorem d_S_turn_11 : decode b_S_turn 11 = .ok (.getfield 31, 3) := by decide +kernel
theorem d_S_turn_14 : decode b_S_turn 14 = .ok (.aload_n 0, 1) := by decide +kernel
theorem d_S_turn_15 : decode b_S_turn 15 = .ok (.getfield 9, 3) := by decide +kernel
theorem d_S_turn_18 : decode b_S_turn 18 = .ok (.iload_n 2, 1) := by decide +kernel
theorem d_S_turn_19 : decode b_S_turn 19 = .ok (.iaload, 1) := by decide +kernel
theorem d_S_turn_20 : decode b_S_turn 20 = .ok (.invokevirtual 68, 3) := by decide +kernel
theorem d_S_turn_23 : decode b_S_turn 23 = .ok (.invokevirtual 46, 3) := by decide +kernel
theorem d_S_turn_26 : decode b_S_turn 26 = .ok (.ireturn, 1) := by decide +kernel
theorem d_A_turned_0 : decode b_A_turned 0 = .ok (.aload_n 0, 1) := by decide +kernel
theorem d_A_turned_1 : decode b_A_turned 1 = .ok (.sipush 765, 3) := by decide +kernel
theorem d_A_turned_4 : decode b_A_turned 4 = .ok (.invokevirtual 31, 3) := by decide +kernel
theorem d_A_turned_7 : decode b_A_turned 7 = .ok (.aload_n 0, 1) := by decide +kernel
theorem d_A_turned_8 : decode b_A_turned 8 = .ok (.iload_n 1, 1) := by decide +kernel
theorem d_A_turned_9 : decode b_A_turned 9 = .ok (.iconst 0, 1) := by decide +kernel
theorem d_A_turned_10 : decode b_A_turned 10 = .ok (.iconst 0, 1) := by decide +kernel
theorem d_A_turned_11 : decode b_A_turned 11 = .ok (.iconst 0, 1) := by decide +kernel
theorem d_A_turned_12 : decode b_A_turned 12 = .ok (.aload_n 0, 1) := by decide +kernel
theorem d_A_turned_13 : decode b_A_turned 13 = .ok (.iload_n 1, 1) := by decide +kernel
theorem d_A_turned_14 : decode b_A_turned 14 = .ok (.iconst 0, 1) := by decide +kernel
theorem d_A_turned_15 : decode b_A_turned 15 = .ok (.invokevirtual 45, 3) := by decide +kernel
theorem d_A_turned_18 : decode b_A_turned 18 = .ok (.invokevirtual 49, 3) := by decide +kernel
theorem d_A_turned_21 : decode b_A_turned 21 = .ok (.ireturn, 1) := by decide +kernel
theorem d_A_hanging_0 : decode b_A_hanging 0 = .ok (.iload_n 1, 1) := by decide +kernel
theorem d_A_hanging_1 : decode b_A_hanging 1 = .ok (.iconst 1, 1) := by decide +kernel
theorem d_A_hanging_2 : decode b_A_hanging 2 = .ok (.if_icmp .le 9, 3) := by decide +kernel
theorem d_A_hanging_5 : decode b_A_hanging 5 = .ok (.iload_n 2, 1) := by decide +kernel
theorem d_A_hanging_6 : decode b_A_hanging 6 = .ok (.bipush 12, 2) := by decide +kernel
theorem d_A_hanging_8 : decode b_A_hanging 8 = .ok (.if_icmp .lt 5, 3) := by decide +kernel
theorem d_A_hanging_11 : decode b_A_hanging 11 = .ok (.iconst 0, 1) := by decide +kernel
theorem d_A_hanging_12 : decode b_A_hanging 12 = .ok (.ireturn, 1) := by decide +kernel
theorem d_A_hanging_13 : decode b_A_hanging 13 = .ok (.aload_n 0, 1) := by decide +kernel
theorem d_A_hanging_14 : decode b_A_hanging 14 = .ok (.getfield 18, 3) := by decide +kernel
theorem d_A_hanging_17 : decode b_A_hanging 17 = .ok (.iload_n 1, 1) := by decide +kernel
theorem d_A_hanging_18 : decode b_A_hanging 18 = .ok (.iconst 0, 1) := by decide +kernel
theorem d_A_hanging_19 : decode b_A_hanging 19 = .ok (.iconst (-1), 1) := by decide +kernel
theorem d_A_hanging_20 : decode b_A_hanging 20 = .ok (.invokevirtual 53, 3) := by decide +kernel
theorem d_A_hanging_23 : decode b_A_hanging 23 = .ok (.istore_n 3, 1) := by decide +kernel
theorem d_A_hanging_24 : decode b_A_hanging 24 = .ok (.iload_n 3, 1) := by decide +kernel
theorem d_A_hanging_25 : decode b_A_hanging 25 = .ok (.iconst (-1), 1) := by decide +kernel
theorem d_A_hanging_26 : decode b_A_hanging 26 = .ok (.if_icmp .eq 5, 3) := by decide +kernel
theorem d_A_hanging_29 : decode b_A_hanging 29 = .ok (.iload_n 3, 1) := by decide +kernel
theorem d_A_hanging_30 : decode b_A_hanging 30 = .ok (.ireturn, 1) := by decide +kernel
theorem d_A_hanging_31 : decode b_A_hanging 31 = .ok (.aload_n 0, 1) := by decide +kernel
theorem d_A_hanging_32 : decode b_A_hanging 32 = .ok (.getfield 9, 3) := by decide +kernel
theorem d_A_hanging_35 : decode b_A_hanging 35 = .ok (.iload_n 1, 1) := by decide +kernel
theorem d_A_hanging_36 : decode b_A_hanging 36 = .ok (.invokevirtual 69, 3) := by decide +kernel
theorem d_A_hanging_39 : decode b_A_hanging 39 = .ok (.istore 4, 2) := by decide +kernel
theorem d_A_hanging_41 : decode b_A_hanging 41 = .ok (.iconst 1, 1) := by decide +kernel
theorem d_A_hanging_42 : decode b_A_hanging 42 = .ok (.iload 4, 2) := by decide +kernel
theorem d_A_hanging_44 : decode b_A_hanging 44 = .ok (.ishl, 1) := by decide +kernel
theorem d_A_hanging_45 : decode b_A_hanging 45 = .ok (.istore 5, 2) := by decide +kernel
theorem d_A_hanging_47 : decode b_A_hanging 47 = .ok (.iload 5, 2) := by decide +kernel
theorem d_A_hanging_49 : decode b_A_hanging 49 = .ok (.aload_n 0, 1) := by decide +kernel
theorem d_A_hanging_50 : decode b_A_hanging 50 = .ok (.aload_n 0, 1) := by decide +kernel
theorem d_A_hanging_51 : decode b_A_hanging 51 = .ok (.getfield 9, 3) := by decide +kernel
theorem d_A_hanging_54 : decode b_A_hanging 54 = .ok (.iload_n 1, 1) := by decide +kernel
theorem d_A_hanging_55 : decode b_A_hanging 55 = .ok (.iload 4, 2) := by decide +kernel
theorem d_A_hanging_57 : decode b_A_hanging 57 = .ok (.invokevirtual 59, 3) := by decide +kernel
theorem d_A_hanging_60 : decode b_A_hanging 60 = .ok (.iload_n 2, 1) := by decide +kernel
theorem d_A_hanging_61 : decode b_A_hanging 61 = .ok (.iconst 1, 1) := by decide +kernel
theorem d_A_hanging_62 : decode b_A_hanging 62 = .ok (.iadd, 1) := by decide +kernel
theorem d_A_hanging_63 : decode b_A_hanging 63 = .ok (.invokevirtual 45, 3) := by decide +kernel
theorem d_A_hanging_66 : decode b_A_hanging 66 = .ok (.ior, 1) := by decide +kernel
theorem d_A_hanging_67 : decode b_A_hanging 67 = .ok (.istore 5, 2) := by decide +kernel
theorem d_A_hanging_69 : decode b_A_hanging 69 = .ok (.iload 5, 2) := by decide +kernel
theorem d_A_hanging_71 : decode b_A_hanging 71 = .ok (.aload_n 0, 1) := by decide +kernel
theorem d_A_hanging_72 : decode b_A_hanging 72 = .ok (.aload_n 0, 1) := by decide +kernel
theorem d_A_hanging_73 : decode b_A_hanging 73 = .ok (.getfield 9, 3) := by decide +kernel
theorem d_A_hanging_76 : decode b_A_hanging 76 = .ok (.iload_n 1, 1) := by decide +kernel
theorem d_A_hanging_77 : decode b_A_hanging 77 = .ok (.iload 4, 2) := by decide +kernel
theorem d_A_hanging_79 : decode b_A_hanging 79 = .ok (.invokevirtual 62, 3) := by decide +kernel
theorem d_A_hanging_82 : decode b_A_hanging 82 = .ok (.iload_n 2, 1) := by decide +kernel
theorem d_A_hanging_83 : decode b_A_hanging 83 = .ok (.iconst 1, 1) := by decide +kernel
theorem d_A_hanging_84 : decode b_A_hanging 84 = .ok (.iadd, 1) := by decide +kernel
theorem d_A_hanging_85 : decode b_A_hanging 85 = .ok (.invokevirtual 45, 3) := by decide +kernel
theorem d_A_hanging_88 : decode b_A_hanging 88 = .ok (.ior, 1) := by decide +kernel
theorem d_A_hanging_89 : decode b_A_hanging 89 = .ok (.istore 5, 2) := by decide +kernel
theorem d_A_hanging_91 : decode b_A_hanging 91 = .ok (.aload_n 0, 1) := by decide +kernel
theorem d_A_hanging_92 : decode b_A_hanging 92 = .ok (.getfield 18, 3) := by decide +kernel
theorem d_A_hanging_95 : decode b_A_hanging 95 = .ok (.iload_n 1, 1) := by decide +kernel
theorem d_A_hanging_96 : decode b_A_hanging 96 = .ok (.iconst 0, 1) := by decide +kernel
theorem d_A_hanging_97 : decode b_A_hanging 97 = .ok (.iconst (-1), 1) := by decide +kernel
theorem d_A_hanging_98 : decode b_A_hanging 98 = .ok (.iload 5, 2) := by decide +kernel
theorem d_A_hanging_100 : decode b_A_hanging 100 = .ok (.invokevirtual 65, 3) := by decide +kernel
theorem d_A_hanging_103 : decode b_A_hanging 103 = .ok (.iload 5, 2) := by decide +kernel
theorem d_A_hanging_105 : decode b_A_hanging 105 = .ok (.ireturn, 1) := by decide +kernel
theorem d_A_turnedFrom_0 : decode b_A_turnedFrom 0 = .ok (.aload_n 0, 1) := by decide +kernel
theorem d_A_turnedFrom_1 : decode b_A_turnedFrom 1 = .ok (.getfield 9, 3) := by decide +kernel
theorem d_A_turnedFrom_4 : decode b_A_turnedFrom 4 = .ok (.iload_n 1, 1) := by decide +kernel
theorem d_A_turnedFrom_5 : decode b_A_turnedFrom 5 = .ok (.iload_n 3, 1) := by decide +kernel
theorem d_A_turnedFrom_6 : decode b_A_turnedFrom 6 = .ok (.iload 4, 2) := by decide +kernel
theorem d_A_turnedFrom_8 : decode b_A_turnedFrom 8 = .ok (.invokevirtual 73, 3) := by decide +kernel
theorem d_A_turnedFrom_11 : decode b_A_turnedFrom 11 = .ok (.istore 6, 2) := by decide +kernel
theorem d_A_turnedFrom_13 : decode b_A_turnedFrom 13 = .ok (.iload 6, 2) := by decide +kernel
theorem d_A_turnedFrom_15 : decode b_A_turnedFrom 15 = .ok (.iconst 1, 1) := by decide +kernel
theorem d_A_turnedFrom_16 : decode b_A_turnedFrom 16 = .ok (.if_icmp .le 9, 3) := by decide +kernel
theorem d_A_turnedFrom_19 : decode b_A_turnedFrom 19 = .ok (.iload_n 2, 1) := by decide +kernel
theorem d_A_turnedFrom_20 : decode b_A_turnedFrom 20 = .ok (.bipush 12, 2) := by decide +kernel
theorem d_A_turnedFrom_22 : decode b_A_turnedFrom 22 = .ok (.if_icmp .lt 6, 3) := by decide +kernel
theorem d_A_turnedFrom_25 : decode b_A_turnedFrom 25 = .ok (.iload 6, 2) := by decide +kernel
theorem d_A_turnedFrom_27 : decode b_A_turnedFrom 27 = .ok (.ireturn, 1) := by decide +kernel
theorem d_A_turnedFrom_28 : decode b_A_turnedFrom 28 = .ok (.aload_n 0, 1) := by decide +kernel
theorem d_A_turnedFrom_29 : decode b_A_turnedFrom 29 = .ok (.getfield 9, 3) := by decide +kernel
theorem d_A_turnedFrom_32 : decode b_A_turnedFrom 32 = .ok (.iload_n 2, 1) := by decide +kernel
theorem d_A_turnedFrom_33 : decode b_A_turnedFrom 33 = .ok (.invokevirtual 76, 3) := by decide +kernel
theorem d_A_turnedFrom_36 : decode b_A_turnedFrom 36 = .ok (.istore 7, 2) := by decide +kernel
theorem d_A_turnedFrom_38 : decode b_A_turnedFrom 38 = .ok (.iconst 1, 1) := by decide +kernel
theorem d_A_turnedFrom_39 : decode b_A_turnedFrom 39 = .ok (.iload 7, 2) := by decide +kernel
theorem d_A_turnedFrom_41 : decode b_A_turnedFrom 41 = .ok (.iconst 1, 1) := by decide +kernel
theorem d_A_turnedFrom_42 : decode b_A_turnedFrom 42 = .ok (.ixor, 1) := by decide +kernel
theorem d_A_turnedFrom_43 : decode b_A_turnedFrom 43 = .ok (.ishl, 1) := by decide +kernel
theorem d_A_turnedFrom_44 : decode b_A_turnedFrom 44 = .ok (.istore 8, 2) := by decide +kernel
theorem d_A_turnedFrom_46 : decode b_A_turnedFrom 46 = .ok (.iload 5, 2) := by decide +kernel
theorem d_A_turnedFrom_48 : decode b_A_turnedFrom 48 = .ok (.iload 8, 2) := by decide +kernel
theorem d_A_turnedFrom_50 : decode b_A_turnedFrom 50 = .ok (.iand, 1) := by decide +kernel
theorem d_A_turnedFrom_51 : decode b_A_turnedFrom 51 = .ok (.ifCond .ne 18, 3) := by decide +kernel
theorem d_A_turnedFrom_54 : decode b_A_turnedFrom 54 = .ok (.aload_n 0, 1) := by decide +kernel
theorem d_A_turnedFrom_55 : decode b_A_turnedFrom 55 = .ok (.iload 6, 2) := by decide +kernel
theorem d_A_turnedFrom_57 : decode b_A_turnedFrom 57 = .ok (.iload_n 2, 1) := by decide +kernel
theorem d_A_turnedFrom_58 : decode b_A_turnedFrom 58 = .ok (.iconst 1, 1) := by decide +kernel
theorem d_A_turnedFrom_59 : decode b_A_turnedFrom 59 = .ok (.iadd, 1) := by decide +kernel
theorem d_A_turnedFrom_60 : decode b_A_turnedFrom 60 = .ok (.iload_n 3, 1) := by decide +kernel
theorem d_A_turnedFrom_61 : decode b_A_turnedFrom 61 = .ok (.iload 4, 2) := by decide +kernel
theorem d_A_turnedFrom_63 : decode b_A_turnedFrom 63 = .ok (.iload 5, 2) := by decide +kernel
theorem d_A_turnedFrom_65 : decode b_A_turnedFrom 65 = .ok (.invokevirtual 49, 3) := by decide +kernel
theorem d_A_turnedFrom_68 : decode b_A_turnedFrom 68 = .ok (.ireturn, 1) := by decide +kernel
theorem d_A_turnedFrom_69 : decode b_A_turnedFrom 69 = .ok (.aload_n 0, 1) := by decide +kernel
theorem d_A_turnedFrom_70 : decode b_A_turnedFrom 70 = .ok (.iload 6, 2) := by decide +kernel
theorem d_A_turnedFrom_72 : decode b_A_turnedFrom 72 = .ok (.iload_n 2, 1) := by decide +kernel
theorem d_A_turnedFrom_73 : decode b_A_turnedFrom 73 = .ok (.iconst 1, 1) := by decide +kernel
theorem d_A_turnedFrom_74 : decode b_A_turnedFrom 74 = .ok (.iadd, 1) := by decide +kernel
theorem d_A_turnedFrom_75 : decode b_A_turnedFrom 75 = .ok (.iload_n 3, 1) := by decide +kernel
theorem d_A_turnedFrom_76 : decode b_A_turnedFrom 76 = .ok (.iload 8, 2) := by decide +kernel
theorem d_A_turnedFrom_78 : decode b_A_turnedFrom 78 = .ok (.ior, 1) := by decide +kernel
theorem d_A_turnedFrom_79 : decode b_A_turnedFrom 79 = .ok (.iload 4, 2) := by decide +kernel
theorem d_A_turnedFrom_81 : decode b_A_turnedFrom 81 = .ok (.iload 5, 2) := by decide +kernel
theorem d_A_turnedFrom_83 : decode b_A_turnedFrom 83 = .ok (.invokevirtual 49, 3) := by decide +kernel
theorem d_A_turnedFrom_86 : decode b_A_turnedFrom 86 = .ok (.istore 9, 2) := by decide +kernel
theorem d_A_turnedFrom_88 : decode b_A_turnedFrom 88 = .ok (.aload_n 0, 1) := by decide +kernel
theorem d_A_turnedFrom_89 : decode b_A_turnedFrom 89 = .ok (.iload 6, 2) := by decide +kernel
theorem d_A_turnedFrom_91 : decode b_A_turnedFrom 91 = .ok (.iload_n 2, 1) := by decide +kernel
theorem d_A_turnedFrom_92 : decode b_A_turnedFrom 92 = .ok (.iconst 1, 1) := by decide +kernel
theorem d_A_turnedFrom_93 : decode b_A_turnedFrom 93 = .ok (.iadd, 1) := by decide +kernel
theorem d_A_turnedFrom_94 : decode b_A_turnedFrom 94 = .ok (.iload_n 3, 1) := by decide +kernel
theorem d_A_turnedFrom_95 : decode b_A_turnedFrom 95 = .ok (.iload 8, 2) := by decide +kernel
theorem d_A_turnedFrom_97 : decode b_A_turnedFrom 97 = .ok (.ior, 1) := by decide +kernel
theorem d_A_turnedFrom_98 : decode b_A_turnedFrom 98 = .ok (.iload 4, 2) := by decide +kernel
theorem d_A_turnedFrom_100 : decode b_A_turnedFrom 100 = .ok (.iload 8, 2) := by decide +kernel
theorem d_A_turnedFrom_102 : decode b_A_turnedFrom 102 = .ok (.ior, 1) := by decide +kernel
theorem d_A_turnedFrom_103 : decode b_A_turnedFrom 103 = .ok (.iload 5, 2) := by decide +kernel
theorem d_A_turnedFrom_105 : decode b_A_turnedFrom 105 = .ok (.invokevirtual 49, 3) := by decide +kernel
theorem d_A_turnedFrom_108 : decode b_A_turnedFrom 108 = .ok (.istore 10, 2) := by decide +kernel
theorem d_A_turnedFrom_110 : decode b_A_turnedFrom 110 = .ok (.aload_n 0, 1) := by decide +kernel
theorem d_A_turnedFrom_111 : decode b_A_turnedFrom 111 = .ok (.getfield 9, 3) := by decide +kernel
theorem d_A_turnedFrom_114 : decode b_A_turnedFrom 114 = .ok (.iload 7, 2) := by decide +kernel
theorem d_A_turnedFrom_116 : decode b_A_turnedFrom 116 = .ok (.iload 9, 2) := by decide +kernel
theorem d_A_turnedFrom_118 : decode b_A_turnedFrom 118 = .ok (.iload 10, 2) := by decide +kernel
theorem d_A_turnedFrom_120 : decode b_A_turnedFrom 120 = .ok (.invokevirtual 34, 3) := by decide +kernel
theorem d_A_turnedFrom_123 : decode b_A_turnedFrom 123 = .ok (.ireturn, 1) := by decide +kernel
theorem d_N_followed_0 : decode b_N_followed 0 = .ok (.iload_n 1, 1) := by decide +kernel
theorem d_N_followed_1 : decode b_N_followed 1 = .ok (.istore 4, 2) := by decide +kernel
theorem d_N_followed_3 : decode b_N_followed 3 = .ok (.iconst 0, 1) := by decide +kernel
theorem d_N_followed_4 : decode b_N_followed 4 = .ok (.istore 5, 2) := by decide +kernel
theorem d_N_followed_6 : decode b_N_followed 6 = .ok (.iload 5, 2) := by decide +kernel
theorem d_N_followed_8 : decode b_N_followed 8 = .ok (.bipush 12, 2) := by decide +kernel
theorem d_N_followed_10 : decode b_N_followed 10 = .ok (.if_icmp .ge 62, 3) := by decide +kernel
theorem d_N_followed_13 : decode b_N_followed 13 = .ok (.iload_n 2, 1) := by decide +kernel
theorem d_N_followed_14 : decode b_N_followed 14 = .ok (.aload_n 0, 1) := by decide +kernel
theorem d_N_followed_15 : decode b_N_followed 15 = .ok (.iload 4, 2) := by decide +kernel
theorem d_N_followed_17 : decode b_N_followed 17 = .ok (.iconst 0, 1) := by decide +kernel
theorem d_N_followed_18 : decode b_N_followed 18 = .ok (.invokevirtual 46, 3) := by decide +kernel
theorem d_N_followed_21 : decode b_N_followed 21 = .ok (.ishr, 1) := by decide +kernel
theorem d_N_followed_22 : decode b_N_followed 22 = .ok (.iconst 1, 1) := by decide +kernel
theorem d_N_followed_23 : decode b_N_followed 23 = .ok (.iand, 1) := by decide +kernel
theorem d_N_followed_24 : decode b_N_followed 24 = .ok (.ifCond .eq 48, 3) := by decide +kernel
theorem d_N_followed_27 : decode b_N_followed 27 = .ok (.iload_n 3, 1) := by decide +kernel
theorem d_N_followed_28 : decode b_N_followed 28 = .ok (.aload_n 0, 1) := by decide +kernel
theorem d_N_followed_29 : decode b_N_followed 29 = .ok (.iload 4, 2) := by decide +kernel
theorem d_N_followed_31 : decode b_N_followed 31 = .ok (.iconst 0, 1) := by decide +kernel
theorem d_N_followed_32 : decode b_N_followed 32 = .ok (.invokevirtual 46, 3) := by decide +kernel
theorem d_N_followed_35 : decode b_N_followed 35 = .ok (.ishr, 1) := by decide +kernel
theorem d_N_followed_36 : decode b_N_followed 36 = .ok (.iconst 1, 1) := by decide +kernel
theorem d_N_followed_37 : decode b_N_followed 37 = .ok (.iand, 1) := by decide +kernel
theorem d_N_followed_38 : decode b_N_followed 38 = .ok (.ifCond .eq 7, 3) := by decide +kernel
theorem d_N_followed_41 : decode b_N_followed 41 = .ok (.iconst 1, 1) := by decide +kernel
theorem d_N_followed_42 : decode b_N_followed 42 = .ok (.goto 4, 3) := by decide +kernel
theorem d_N_followed_45 : decode b_N_followed 45 = .ok (.iconst 0, 1) := by decide +kernel
theorem d_N_followed_46 : decode b_N_followed 46 = .ok (.istore 6, 2) := by decide +kernel
theorem d_N_followed_48 : decode b_N_followed 48 = .ok (.aload_n 0, 1) := by decide +kernel
theorem d_N_followed_49 : decode b_N_followed 49 = .ok (.iload 4, 2) := by decide +kernel
theorem d_N_followed_51 : decode b_N_followed 51 = .ok (.iload 6, 2) := by decide +kernel
theorem d_N_followed_53 : decode b_N_followed 53 = .ok (.ifCond .eq 7, 3) := by decide +kernel
theorem d_N_followed_56 : decode b_N_followed 56 = .ok (.iconst 2, 1) := by decide +kernel
theorem d_N_followed_57 : decode b_N_followed 57 = .ok (.goto 4, 3) := by decide +kernel
theorem d_N_followed_60 : decode b_N_followed 60 = .ok (.iconst 1, 1) := by decide +kernel
theorem d_N_followed_61 : decode b_N_followed 61 = .ok (.invokevirtual 46, 3) := by decide +kernel
theorem d_N_followed_64 : decode b_N_followed 64 = .ok (.istore 4, 2) := by decide +kernel
theorem d_N_followed_66 : decode b_N_followed 66 = .ok (.iinc 5 1, 3) := by decide +kernel
theorem d_N_followed_69 : decode b_N_followed 69 = .ok (.goto (-63), 3) := by decide +kernel
theorem d_N_followed_72 : decode b_N_followed 72 = .ok (.iload 4, 2) := by decide +kernel
theorem d_N_followed_74 : decode b_N_followed 74 = .ok (.ireturn, 1) := by decide +kernel
theorem d_S_value_0 : decode b_S_value 0 = .ok (.iload_n 1, 1) := by decide +kernel
theorem d_S_value_1 : decode b_S_value 1 = .ok (.invokestatic 42, 3) := by decide +kernel
theorem d_S_value_4 : decode b_S_value 4 = .ok (.iload_n 2, 1) := by decide +kernel
theorem d_S_value_5 : decode b_S_value 5 = .ok (.sipush 4096, 3) := by decide +kernel
theorem d_S_value_8 : decode b_S_value 8 = .ok (.invokestatic 50, 3) := by decide +kernel
theorem d_S_value_11 : decode b_S_value 11 = .ok (.aload_n 0, 1) := by decide +kernel
theorem d_S_value_12 : decode b_S_value 12 = .ok (.getfield 22, 3) := by decide +kernel
theorem d_S_value_15 : decode b_S_value 15 = .ok (.aload_n 0, 1) := by decide +kernel
theorem d_S_value_16 : decode b_S_value 16 = .ok (.getfield 9, 3) := by decide +kernel
theorem d_S_value_19 : decode b_S_value 19 = .ok (.iload_n 1, 1) := by decide +kernel
theorem d_S_value_20 : decode b_S_value 20 = .ok (.iaload, 1) := by decide +kernel
theorem d_S_value_21 : decode b_S_value 21 = .ok (.iload_n 2, 1) := by decide +kernel
theorem d_S_value_22 : decode b_S_value 22 = .ok (.invokevirtual 71, 3) := by decide +kernel
theorem d_S_value_25 : decode b_S_value 25 = .ok (.ireturn, 1) := by decide +kernel
theorem d_N_truthFor_0 : decode b_N_truthFor 0 = .ok (.iload_n 1, 1) := by decide +kernel
theorem d_N_truthFor_1 : decode b_N_truthFor 1 = .ok (.istore_n 3, 1) := by decide +kernel
theorem d_N_truthFor_2 : decode b_N_truthFor 2 = .ok (.iconst 0, 1) := by decide +kernel
theorem d_N_truthFor_3 : decode b_N_truthFor 3 = .ok (.istore 4, 2) := by decide +kernel
theorem d_N_truthFor_5 : decode b_N_truthFor 5 = .ok (.iload 4, 2) := by decide +kernel
theorem d_N_truthFor_7 : decode b_N_truthFor 7 = .ok (.bipush 12, 2) := by decide +kernel
theorem d_N_truthFor_9 : decode b_N_truthFor 9 = .ok (.if_icmp .ge 50, 3) := by decide +kernel
theorem d_N_truthFor_12 : decode b_N_truthFor 12 = .ok (.iload_n 3, 1) := by decide +kernel
theorem d_N_truthFor_13 : decode b_N_truthFor 13 = .ok (.iconst 1, 1) := by decide +kernel
theorem d_N_truthFor_14 : decode b_N_truthFor 14 = .ok (.if_icmp .le 45, 3) := by decide +kernel
theorem d_N_truthFor_17 : decode b_N_truthFor 17 = .ok (.iload_n 2, 1) := by decide +kernel
theorem d_N_truthFor_18 : decode b_N_truthFor 18 = .ok (.aload_n 0, 1) := by decide +kernel
theorem d_N_truthFor_19 : decode b_N_truthFor 19 = .ok (.iload_n 3, 1) := by decide +kernel
theorem d_N_truthFor_20 : decode b_N_truthFor 20 = .ok (.iconst 0, 1) := by decide +kernel
theorem d_N_truthFor_21 : decode b_N_truthFor 21 = .ok (.invokevirtual 46, 3) := by decide +kernel
theorem d_N_truthFor_24 : decode b_N_truthFor 24 = .ok (.ishr, 1) := by decide +kernel
theorem d_N_truthFor_25 : decode b_N_truthFor 25 = .ok (.iconst 1, 1) := by decide +kernel
theorem d_N_truthFor_26 : decode b_N_truthFor 26 = .ok (.iand, 1) := by decide +kernel
theorem d_N_truthFor_27 : decode b_N_truthFor 27 = .ok (.ifCond .eq 7, 3) := by decide +kernel
theorem d_N_truthFor_30 : decode b_N_truthFor 30 = .ok (.iconst 1, 1) := by decide +kernel
theorem d_N_truthFor_31 : decode b_N_truthFor 31 = .ok (.goto 4, 3) := by decide +kernel
theorem d_N_truthFor_34 : decode b_N_truthFor 34 = .ok (.iconst 0, 1) := by decide +kernel
theorem d_N_truthFor_35 : decode b_N_truthFor 35 = .ok (.istore 5, 2) := by decide +kernel
theorem d_N_truthFor_37 : decode b_N_truthFor 37 = .ok (.aload_n 0, 1) := by decide +kernel
theorem d_N_truthFor_38 : decode b_N_truthFor 38 = .ok (.iload_n 3, 1) := by decide +kernel
theorem d_N_truthFor_39 : decode b_N_truthFor 39 = .ok (.iload 5, 2) := by decide +kernel
theorem d_N_truthFor_41 : decode b_N_truthFor 41 = .ok (.ifCond .eq 7, 3) := by decide +kernel
theorem d_N_truthFor_44 : decode b_N_truthFor 44 = .ok (.iconst 2, 1) := by decide +kernel
theorem d_N_truthFor_45 : decode b_N_truthFor 45 = .ok (.goto 4, 3) := by decide +kernel
theorem d_N_truthFor_48 : decode b_N_truthFor 48 = .ok (.iconst 1, 1) := by decide +kernel
theorem d_N_truthFor_49 : decode b_N_truthFor 49 = .ok (.invokevirtual 46, 3) := by decide +kernel
theorem d_N_truthFor_52 : decode b_N_truthFor 52 = .ok (.istore_n 3, 1) := by decide +kernel
theorem d_N_truthFor_53 : decode b_N_truthFor 53 = .ok (.iinc 4 1, 3) := by decide +kernel
theorem d_N_truthFor_56 : decode b_N_truthFor 56 = .ok (.goto (-51), 3) := by decide +kernel
theorem d_N_truthFor_59 : decode b_N_truthFor 59 = .ok (.iload_n 3, 1) := by decide +kernel
theorem d_N_truthFor_60 : decode b_N_truthFor 60 = .ok (.iconst 1, 1) := by decide +kernel
theorem d_N_truthFor_61 : decode b_N_truthFor 61 = .ok (.if_icmp .ne 7, 3) := by decide +kernel
theorem d_N_truthFor_64 : decode b_N_truthFor 64 = .ok (.iconst 1, 1) := by decide +kernel
theorem d_N_truthFor_65 : decode b_N_truthFor 65 = .ok (.goto 4, 3) := by decide +kernel
theorem d_N_truthFor_68 : decode b_N_truthFor 68 = .ok (.iconst 0, 1) := by decide +kernel
theorem d_N_truthFor_69 : decode b_N_truthFor 69 = .ok (.ireturn, 1) := by decide +kernel
theorem d_S_same_0 : decode b_S_same 0 = .ok (.iload_n 1, 1) := by decide +kernel
theorem d_S_same_1 : decode b_S_same 1 = .ok (.invokestatic 42, 3) := by decide +kernel
theorem d_S_same_4 : decode b_S_same 4 = .ok (.iload_n 2, 1) := by decide +kernel
theorem d_S_same_5 : decode b_S_same 5 = .ok (.invokestatic 42, 3) := by decide +kernel
theorem d_S_same_8 : decode b_S_same 8 = .ok (.aload_n 0, 1) := by decide +kernel
theorem d_S_same_9 : decode b_S_same 9 = .ok (.getfield 9, 3) := by decide +kernel
theorem d_S_same_12 : decode b_S_same 12 = .ok (.iload_n 1, 1) := by decide +kernel
theorem d_S_same_13 : decode b_S_same 13 = .ok (.iaload, 1) := by decide +kernel
theorem d_S_same_14 : decode b_S_same 14 = .ok (.aload_n 0, 1) := by decide +kernel
theorem d_S_same_15 : decode b_S_same 15 = .ok (.getfield 9, 3) := by decide +kernel
theorem d_S_same_18 : decode b_S_same 18 = .ok (.iload_n 2, 1) := by decide +kernel
theorem d_S_same_19 : decode b_S_same 19 = .ok (.iaload, 1) := by decide +kernel
theorem d_S_same_20 : decode b_S_same 20 = .ok (.if_icmp .ne 7, 3) := by decide +kernel
theorem d_S_same_23 : decode b_S_same 23 = .ok (.iconst 1, 1) := by decide +kernel
theorem d_S_same_24 : decode b_S_same 24 = .ok (.goto 4, 3) := by decide +kernel
theorem d_S_same_27 : decode b_S_same 27 = .ok (.iconst 0, 1) := by decide +kernel
theorem d_S_same_28 : decode b_S_same 28 = .ok (.ireturn, 1) := by decide +kernel
theorem d_S_count_0 : decode b_S_count 0 = .ok (.iload_n 1, 1) := by decide +kernel
theorem d_S_count_1 : decode b_S_count 1 = .ok (.invokestatic 42, 3) := by decide +kernel
theorem d_S_count_4 : decode b_S_count 4 = .ok (.aload_n 0, 1) := by decide +kernel
theorem d_S_count_5 : decode b_S_count 5 = .ok (.getfield 31, 3) := by decide +kernel
theorem d_S_count_8 : decode b_S_count 8 = .ok (.aload_n 0, 1) := by decide +kernel
theorem d_S_count_9 : decode b_S_count 9 = .ok (.getfield 9, 3) := by decide +kernel
theorem d_S_count_12 : decode b_S_count 12 = .ok (.iload_n 1, 1) := by decide +kernel
theorem d_S_count_13 : decode b_S_count 13 = .ok (.iaload, 1) := by decide +kernel
theorem d_S_count_14 : decode b_S_count 14 = .ok (.invokevirtual 74, 3) := by decide +kernel
theorem d_S_count_17 : decode b_S_count 17 = .ok (.sipush (-1366), 3) := by decide +kernel
theorem d_S_count_20 : decode b_S_count 20 = .ok (.iand, 1) := by decide +kernel
theorem d_S_count_21 : decode b_S_count 21 = .ok (.ifCond .eq 13, 3) := by decide +kernel
theorem d_S_count_24 : decode b_S_count 24 = .ok (.new 77, 3) := by decide +kernel
theorem d_S_count_27 : decode b_S_count 27 = .ok (.dup, 1) := by decide +kernel
theorem d_S_count_28 : decode b_S_count 28 = .ok (.ldc 79, 2) := by decide +kernel
theorem d_S_count_30 : decode b_S_count 30 = .ok (.invokespecial 81, 3) := by decide +kernel
theorem d_S_count_33 : decode b_S_count 33 = .ok (.athrow, 1) := by decide +kernel
theorem d_S_count_34 : decode b_S_count 34 = .ok (.iconst 0, 1) := by decide +kernel
theorem d_S_count_35 : decode b_S_count 35 = .ok (.istore_n 2, 1) := by decide +kernel
theorem d_S_count_36 : decode b_S_count 36 = .ok (.iconst 0, 1) := by decide +kernel
theorem d_S_count_37 : decode b_S_count 37 = .ok (.istore_n 3, 1) := by decide +kernel
theorem d_S_count_38 : decode b_S_count 38 = .ok (.iconst 0, 1) := by decide +kernel
theorem d_S_count_39 : decode b_S_count 39 = .ok (.istore 4, 2) := by decide +kernel
theorem d_S_count_41 : decode b_S_count 41 = .ok (.iload 4, 2) := by decide +kernel
theorem d_S_count_43 : decode b_S_count 43 = .ok (.bipush 64, 2) := by decide +kernel
theorem d_S_count_45 : decode b_S_count 45 = .ok (.if_icmp .ge 39, 3) := by decide +kernel
theorem d_S_count_48 : decode b_S_count 48 = .ok (.aload_n 0, 1) := by decide +kernel
theorem d_S_count_49 : decode b_S_count 49 = .ok (.getfield 22, 3) := by decide +kernel
theorem d_S_count_52 : decode b_S_count 52 = .ok (.aload_n 0, 1) := by decide +kernel
theorem d_S_count_53 : decode b_S_count 53 = .ok (.getfield 9, 3) := by decide +kernel
theorem d_S_count_56 : decode b_S_count 56 = .ok (.iload_n 1, 1) := by decide +kernel
theorem d_S_count_57 : decode b_S_count 57 = .ok (.iaload, 1) := by decide +kernel
theorem d_S_count_58 : decode b_S_count 58 = .ok (.iload_n 3, 1) := by decide +kernel
theorem d_S_count_59 : decode b_S_count 59 = .ok (.invokevirtual 71, 3) := by decide +kernel
theorem d_S_count_62 : decode b_S_count 62 = .ok (.ifCond .eq 6, 3) := by decide +kernel
theorem d_S_count_65 : decode b_S_count 65 = .ok (.iinc 2 1, 3) := by decide +kernel
theorem d_S_count_68 : decode b_S_count 68 = .ok (.iload_n 3, 1) := by decide +kernel
theorem d_S_count_69 : decode b_S_count 69 = .ok (.sipush 1365, 3) := by decide +kernel
theorem d_S_count_72 : decode b_S_count 72 = .ok (.isub, 1) := by decide +kernel
theorem d_S_count_73 : decode b_S_count 73 = .ok (.sipush 1365, 3) := by decide +kernel
theorem d_S_count_76 : decode b_S_count 76 = .ok (.iand, 1) := by decide +kernel
theorem d_S_count_77 : decode b_S_count 77 = .ok (.istore_n 3, 1) := by decide +kernel
theorem d_S_count_78 : decode b_S_count 78 = .ok (.iinc 4 1, 3) := by decide +kernel
theorem d_S_count_81 : decode b_S_count 81 = .ok (.goto (-40), 3) := by decide +kernel
theorem d_S_count_84 : decode b_S_count 84 = .ok (.iload_n 2, 1) := by decide +kernel
theorem d_S_count_85 : decode b_S_count 85 = .ok (.ireturn, 1) := by decide +kernel
theorem d_A_hangsOn_0 : decode b_A_hangsOn 0 = .ok (.aload_n 0, 1) := by decide +kernel
theorem d_A_hangsOn_1 : decode b_A_hangsOn 1 = .ok (.getfield 18, 3) := by decide +kernel
theorem d_A_hangsOn_4 : decode b_A_hangsOn 4 = .ok (.invokevirtual 28, 3) := by decide +kernel
theorem d_A_hangsOn_7 : decode b_A_hangsOn 7 = .ok (.aload_n 0, 1) := by decide +kernel
theorem d_A_hangsOn_8 : decode b_A_hangsOn 8 = .ok (.iload_n 1, 1) := by decide +kernel
theorem d_A_hangsOn_9 : decode b_A_hangsOn 9 = .ok (.iconst 0, 1) := by decide +kernel
theorem d_A_hangsOn_10 : decode b_A_hangsOn 10 = .ok (.invokevirtual 45, 3) := by decide +kernel
theorem d_A_hangsOn_13 : decode b_A_hangsOn 13 = .ok (.ireturn, 1) := by decide +kernel
theorem d_S_support_0 : decode b_S_support 0 = .ok (.iload_n 1, 1) := by decide +kernel
theorem d_S_support_1 : decode b_S_support 1 = .ok (.invokestatic 42, 3) := by decide +kernel
theorem d_S_support_4 : decode b_S_support 4 = .ok (.aload_n 0, 1) := by decide +kernel
theorem d_S_support_5 : decode b_S_support 5 = .ok (.getfield 31, 3) := by decide +kernel
theorem d_S_support_8 : decode b_S_support 8 = .ok (.aload_n 0, 1) := by decide +kernel
theorem d_S_support_9 : decode b_S_support 9 = .ok (.getfield 9, 3) := by decide +kernel
theorem d_S_support_12 : decode b_S_support 12 = .ok (.iload_n 1, 1) := by decide +kernel
theorem d_S_support_13 : decode b_S_support 13 = .ok (.iaload, 1) := by decide +kernel
theorem d_S_support_14 : decode b_S_support 14 = .ok (.invokevirtual 74, 3) := by decide +kernel
theorem d_S_support_17 : decode b_S_support 17 = .ok (.ireturn, 1) := by decide +kernel
theorem d_S_tidy_0 : decode b_S_tidy 0 = .ok (.iload_n 1, 1) := by decide +kernel
theorem d_S_tidy_1 : decode b_S_tidy 1 = .ok (.iconst 3, 1) := by decide +kernel
theorem d_S_tidy_2 : decode b_S_tidy 2 = .ok (.invokestatic 50, 3) := by decide +kernel
theorem d_S_tidy_5 : decode b_S_tidy 5 = .ok (.aload_n 0, 1) := by decide +kernel
theorem d_S_tidy_6 : decode b_S_tidy 6 = .ok (.getfield 22, 3) := by decide +kernel
theorem d_S_tidy_9 : decode b_S_tidy 9 = .ok (.invokevirtual 84, 3) := by decide +kernel
theorem d_S_tidy_12 : decode b_S_tidy 12 = .ok (.iload_n 1, 1) := by decide +kernel
theorem d_S_tidy_13 : decode b_S_tidy 13 = .ok (.iconst 1, 1) := by decide +kernel
theorem d_S_tidy_14 : decode b_S_tidy 14 = .ok (.if_icmp .ne 13, 3) := by decide +kernel
theorem d_S_tidy_17 : decode b_S_tidy 17 = .ok (.aload_n 0, 1) := by decide +kernel
theorem d_S_tidy_18 : decode b_S_tidy 18 = .ok (.getfield 38, 3) := by decide +kernel
theorem d_S_tidy_21 : decode b_S_tidy 21 = .ok (.invokevirtual 87, 3) := by decide +kernel
theorem d_S_tidy_24 : decode b_S_tidy 24 = .ok (.goto 15, 3) := by decide +kernel
theorem d_S_tidy_27 : decode b_S_tidy 27 = .ok (.iload_n 1, 1) := by decide +kernel
theorem d_S_tidy_28 : decode b_S_tidy 28 = .ok (.iconst 2, 1) := by decide +kernel
theorem d_S_tidy_29 : decode b_S_tidy 29 = .ok (.if_icmp .ne 10, 3) := by decide +kernel
theorem d_S_tidy_32 : decode b_S_tidy 32 = .ok (.aload_n 0, 1) := by decide +kernel
theorem d_S_tidy_33 : decode b_S_tidy 33 = .ok (.getfield 38, 3) := by decide +kernel
theorem d_S_tidy_36 : decode b_S_tidy 36 = .ok (.invokevirtual 90, 3) := by decide +kernel
theorem d_S_tidy_39 : decode b_S_tidy 39 = .ok (.aload_n 0, 1) := by decide +kernel
theorem d_S_tidy_40 : decode b_S_tidy 40 = .ok (.invokevirtual 93, 3) := by decide +kernel
theorem d_S_tidy_43 : decode b_S_tidy 43 = .ok (.ireturn, 1) := by decide +kernel
theorem d_F_seekLess_0 : decode b_F_seekLess 0 = .ok (.aload_n 0, 1) := by decide +kernel
theorem d_F_seekLess_1 : decode b_F_seekLess 1 = .ok (.getfield 9, 3) := by decide +kernel
theorem d_F_seekLess_4 : decode b_F_seekLess 4 = .ok (.invokevirtual 15, 3) := by decide +kernel
theorem d_F_seekLess_7 : decode b_F_seekLess 7 = .ok (.sipush 8000, 3) := by decide +kernel
theorem d_F_seekLess_10 : decode b_F_seekLess 10 = .ok (.iadd, 1) := by decide +kernel
theorem d_F_seekLess_11 : decode b_F_seekLess 11 = .ok (.istore_n 1, 1) := by decide +kernel
theorem d_F_seekLess_12 : decode b_F_seekLess 12 = .ok (.iconst 0, 1) := by decide +kernel
theorem d_F_seekLess_13 : decode b_F_seekLess 13 = .ok (.istore_n 2, 1) := by decide +kernel
theorem d_F_seekLess_14 : decode b_F_seekLess 14 = .ok (.iconst 0, 1) := by decide +kernel
theorem d_F_seekLess_15 : decode b_F_seekLess 15 = .ok (.istore_n 3, 1) := by decide +kernel
theorem d_F_seekLess_16 : decode b_F_seekLess 16 = .ok (.iload_n 3, 1) := by decide +kernel
theorem d_F_seekLess_17 : decode b_F_seekLess 17 = .ok (.bipush 12, 2) := by decide +kernel
theorem d_F_seekLess_19 : decode b_F_seekLess 19 = .ok (.if_icmp .ge 53, 3) := by decide +kernel
theorem d_F_seekLess_22 : decode b_F_seekLess 22 = .ok (.aload_n 0, 1) := by decide +kernel
theorem d_F_seekLess_23 : decode b_F_seekLess 23 = .ok (.getfield 9, 3) := by decide +kernel
theorem d_F_seekLess_26 : decode b_F_seekLess 26 = .ok (.invokevirtual 15, 3) := by decide +kernel
theorem d_F_seekLess_29 : decode b_F_seekLess 29 = .ok (.iload_n 1, 1) := by decide +kernel
theorem d_F_seekLess_30 : decode b_F_seekLess 30 = .ok (.isub, 1) := by decide +kernel
theorem d_F_seekLess_31 : decode b_F_seekLess 31 = .ok (.ifCond .ge 41, 3) := by decide +kernel
theorem d_F_seekLess_34 : decode b_F_seekLess 34 = .ok (.aload_n 0, 1) := by decide +kernel
theorem d_F_seekLess_35 : decode b_F_seekLess 35 = .ok (.iload_n 2, 1) := by decide +kernel
theorem d_F_seekLess_36 : decode b_F_seekLess 36 = .ok (.invokevirtual 21, 3) := by decide +kernel
theorem d_F_seekLess_39 : decode b_F_seekLess 39 = .ok (.istore 4, 2) := by decide +kernel
theorem d_F_seekLess_41 : decode b_F_seekLess 41 = .ok (.iload_n 2, 1) := by decide +kernel
theorem d_F_seekLess_42 : decode b_F_seekLess 42 = .ok (.iconst 1, 1) := by decide +kernel
theorem d_F_seekLess_43 : decode b_F_seekLess 43 = .ok (.iload 4, 2) := by decide +kernel
theorem d_F_seekLess_45 : decode b_F_seekLess 45 = .ok (.ishl, 1) := by decide +kernel
theorem d_F_seekLess_46 : decode b_F_seekLess 46 = .ok (.ior, 1) := by decide +kernel
theorem d_F_seekLess_47 : decode b_F_seekLess 47 = .ok (.istore_n 2, 1) := by decide +kernel
theorem d_F_seekLess_48 : decode b_F_seekLess 48 = .ok (.aload_n 0, 1) := by decide +kernel
theorem d_F_seekLess_49 : decode b_F_seekLess 49 = .ok (.getfield 9, 3) := by decide +kernel
theorem d_F_seekLess_52 : decode b_F_seekLess 52 = .ok (.iload 4, 2) := by decide +kernel
theorem d_F_seekLess_54 : decode b_F_seekLess 54 = .ok (.invokevirtual 25, 3) := by decide +kernel
theorem d_F_seekLess_57 : decode b_F_seekLess 57 = .ok (.ifCond .le 9, 3) := by decide +kernel
theorem d_F_seekLess_60 : decode b_F_seekLess 60 = .ok (.aload_n 0, 1) := by decide +kernel
theorem d_F_seekLess_61 : decode b_F_seekLess 61 = .ok (.iload 4, 2) := by decide +kernel
theorem d_F_seekLess_63 : decode b_F_seekLess 63 = .ok (.invokevirtual 28, 3) := by decide +kernel
theorem d_F_seekLess_66 : decode b_F_seekLess 66 = .ok (.iinc 3 1, 3) := by decide +kernel
theorem d_F_seekLess_69 : decode b_F_seekLess 69 = .ok (.goto (-53), 3) := by decide +kernel
theorem d_F_seekLess_72 : decode b_F_seekLess 72 = .ok (.return_, 1) := by decide +kernel
theorem d_N_rewritten_0 : decode b_N_rewritten 0 = .ok (.aload_n 0, 1) := by decide +kernel
theorem d_N_rewritten_1 : decode b_N_rewritten 1 = .ok (.getfield 43, 3) := by decide +kernel
theorem d_N_rewritten_4 : decode b_N_rewritten 4 = .ok (.ireturn, 1) := by decide +kernel
theorem d_F_fullest_0 : decode b_F_fullest 0 = .ok (.bipush 12, 2) := by decide +kernel
theorem d_F_fullest_2 : decode b_F_fullest 2 = .ok (.istore_n 2, 1) := by decide +kernel
theorem d_F_fullest_3 : decode b_F_fullest 3 = .ok (.iconst 0, 1) := by decide +kernel
theorem d_F_fullest_4 : decode b_F_fullest 4 = .ok (.istore_n 3, 1) := by decide +kernel
theorem d_F_fullest_5 : decode b_F_fullest 5 = .ok (.iload_n 3, 1) := by decide +kernel
theorem d_F_fullest_6 : decode b_F_fullest 6 = .ok (.bipush 12, 2) := by decide +kernel
theorem d_F_fullest_8 : decode b_F_fullest 8 = .ok (.if_icmp .ge 56, 3) := by decide +kernel
theorem d_F_fullest_11 : decode b_F_fullest 11 = .ok (.iload_n 1, 1) := by decide +kernel
theorem d_F_fullest_12 : decode b_F_fullest 12 = .ok (.iload_n 3, 1) := by decide +kernel
theorem d_F_fullest_13 : decode b_F_fullest 13 = .ok (.ishr, 1) := by decide +kernel
theorem d_F_fullest_14 : decode b_F_fullest 14 = .ok (.iconst 1, 1) := by decide +kernel
theorem d_F_fullest_15 : decode b_F_fullest 15 = .ok (.iand, 1) := by decide +kernel
theorem d_F_fullest_16 : decode b_F_fullest 16 = .ok (.ifCond .ne 7, 3) := by decide +kernel
theorem d_F_fullest_19 : decode b_F_fullest 19 = .ok (.iconst 1, 1) := by decide +kernel
theorem d_F_fullest_20 : decode b_F_fullest 20 = .ok (.goto 4, 3) := by decide +kernel
theorem d_F_fullest_23 : decode b_F_fullest 23 = .ok (.iconst 0, 1) := by decide +kernel
theorem d_F_fullest_24 : decode b_F_fullest 24 = .ok (.istore 4, 2) := by decide +kernel
theorem d_F_fullest_26 : decode b_F_fullest 26 = .ok (.iload 4, 2) := by decide +kernel
theorem d_F_fullest_28 : decode b_F_fullest 28 = .ok (.ifCond .eq 30, 3) := by decide +kernel
theorem d_F_fullest_31 : decode b_F_fullest 31 = .ok (.iload_n 2, 1) := by decide +kernel
theorem d_F_fullest_32 : decode b_F_fullest 32 = .ok (.bipush 12, 2) := by decide +kernel
theorem d_F_fullest_34 : decode b_F_fullest 34 = .ok (.if_icmp .eq 22, 3) := by decide +kernel
theorem d_F_fullest_37 : decode b_F_fullest 37 = .ok (.aload_n 0, 1) := by decide +kernel
theorem d_F_fullest_38 : decode b_F_fullest 38 = .ok (.getfield 9, 3) := by decide +kernel
theorem d_F_fullest_41 : decode b_F_fullest 41 = .ok (.iload_n 3, 1) := by decide +kernel
theorem d_F_fullest_42 : decode b_F_fullest 42 = .ok (.invokevirtual 25, 3) := by decide +kernel
theorem d_F_fullest_45 : decode b_F_fullest 45 = .ok (.aload_n 0, 1) := by decide +kernel
theorem d_F_fullest_46 : decode b_F_fullest 46 = .ok (.getfield 9, 3) := by decide +kernel
theorem d_F_fullest_49 : decode b_F_fullest 49 = .ok (.iload_n 2, 1) := by decide +kernel
theorem d_F_fullest_50 : decode b_F_fullest 50 = .ok (.invokevirtual 25, 3) := by decide +kernel
theorem d_F_fullest_53 : decode b_F_fullest 53 = .ok (.if_icmp .le 5, 3) := by decide +kernel
theorem d_F_fullest_56 : decode b_F_fullest 56 = .ok (.iload_n 3, 1) := by decide +kernel
theorem d_F_fullest_57 : decode b_F_fullest 57 = .ok (.istore_n 2, 1) := by decide +kernel
theorem d_F_fullest_58 : decode b_F_fullest 58 = .ok (.iinc 3 1, 3) := by decide +kernel
theorem d_F_fullest_61 : decode b_F_fullest 61 = .ok (.goto (-56), 3) := by decide +kernel
theorem d_F_fullest_64 : decode b_F_fullest 64 = .ok (.iload_n 2, 1) := by decide +kernel
theorem d_F_fullest_65 : decode b_F_fullest 65 = .ok (.ireturn, 1) := by decide +kernel
theorem d_N_heldFor_0 : decode b_N_heldFor 0 = .ok (.iload_n 1, 1) := by decide +kernel
theorem d_N_heldFor_1 : decode b_N_heldFor 1 = .ok (.ifCond .lt 21, 3) := by decide +kernel
theorem d_N_heldFor_4 : decode b_N_heldFor 4 = .ok (.iload_n 1, 1) := by decide +kernel
theorem d_N_heldFor_5 : decode b_N_heldFor 5 = .ok (.aload_n 0, 1) := by decide +kernel
theorem d_N_heldFor_6 : decode b_N_heldFor 6 = .ok (.getfield 28, 3) := by decide +kernel
theorem d_N_heldFor_9 : decode b_N_heldFor 9 = .ok (.arraylength, 1) := by decide +kernel
theorem d_N_heldFor_10 : decode b_N_heldFor 10 = .ok (.if_icmp .ge 12, 3) := by decide +kernel
theorem d_N_heldFor_13 : decode b_N_heldFor 13 = .ok (.aload_n 0, 1) := by decide +kernel
theorem d_N_heldFor_14 : decode b_N_heldFor 14 = .ok (.getfield 28, 3) := by decide +kernel
theorem d_N_heldFor_17 : decode b_N_heldFor 17 = .ok (.iload_n 1, 1) := by decide +kernel
theorem d_N_heldFor_18 : decode b_N_heldFor 18 = .ok (.iaload, 1) := by decide +kernel
theorem d_N_heldFor_19 : decode b_N_heldFor 19 = .ok (.goto 4, 3) := by decide +kernel
theorem d_N_heldFor_22 : decode b_N_heldFor 22 = .ok (.iconst 0, 1) := by decide +kernel
theorem d_N_heldFor_23 : decode b_N_heldFor 23 = .ok (.ireturn, 1) := by decide +kernel
theorem d_F_sift_0 : decode b_F_sift 0 = .ok (.aload_n 0, 1) := by decide +kernel
theorem d_F_sift_1 : decode b_F_sift 1 = .ok (.getfield 9, 3) := by decide +kernel
theorem d_F_sift_4 : decode b_F_sift 4 = .ok (.iload_n 1, 1) := by decide +kernel
theorem d_F_sift_5 : decode b_F_sift 5 = .ok (.invokevirtual 32, 3) := by decide +kernel
theorem d_F_sift_8 : decode b_F_sift 8 = .ok (.istore_n 2, 1) := by decide +kernel
theorem d_F_sift_9 : decode b_F_sift 9 = .ok (.iload_n 2, 1) := by decide +kernel
theorem d_F_sift_10 : decode b_F_sift 10 = .ok (.istore_n 3, 1) := by decide +kernel
theorem d_F_sift_11 : decode b_F_sift 11 = .ok (.iload_n 2, 1) := by decide +kernel
theorem d_F_sift_12 : decode b_F_sift 12 = .ok (.istore 4, 2) := by decide +kernel
theorem d_F_sift_14 : decode b_F_sift 14 = .ok (.aload_n 0, 1) := by decide +kernel
theorem d_F_sift_15 : decode b_F_sift 15 = .ok (.getfield 9, 3) := by decide +kernel
theorem d_F_sift_18 : decode b_F_sift 18 = .ok (.invokevirtual 35, 3) := by decide +kernel
theorem d_F_sift_21 : decode b_F_sift 21 = .ok (.istore 5, 2) := by decide +kernel
theorem d_F_sift_23 : decode b_F_sift 23 = .ok (.iload 5, 2) := by decide +kernel
theorem d_F_sift_25 : decode b_F_sift 25 = .ok (.iload 5, 2) := by decide +kernel
theorem d_F_sift_27 : decode b_F_sift 27 = .ok (.iconst 4, 1) := by decide +kernel
theorem d_F_sift_28 : decode b_F_sift 28 = .ok (.idiv, 1) := by decide +kernel
theorem d_F_sift_29 : decode b_F_sift 29 = .ok (.iadd, 1) := by decide +kernel
theorem d_F_sift_30 : decode b_F_sift 30 = .ok (.istore 6, 2) := by decide +kernel
theorem d_F_sift_32 : decode b_F_sift 32 = .ok (.iload_n 3, 1) := by decide +kernel
theorem d_F_sift_33 : decode b_F_sift 33 = .ok (.iconst 1, 1) := by decide +kernel
theorem d_F_sift_34 : decode b_F_sift 34 = .ok (.iadd, 1) := by decide +kernel
theorem d_F_sift_35 : decode b_F_sift 35 = .ok (.bipush 12, 2) := by decide +kernel
theorem d_F_sift_37 : decode b_F_sift 37 = .ok (.if_icmp .ge 55, 3) := by decide +kernel
theorem d_F_sift_40 : decode b_F_sift 40 = .ok (.aload_n 0, 1) := by decide +kernel
theorem d_F_sift_41 : decode b_F_sift 41 = .ok (.getfield 9, 3) := by decide +kernel
theorem d_F_sift_44 : decode b_F_sift 44 = .ok (.invokevirtual 35, 3) := by decide +kernel
theorem d_F_sift_47 : decode b_F_sift 47 = .ok (.iload 6, 2) := by decide +kernel
theorem d_F_sift_49 : decode b_F_sift 49 = .ok (.if_icmp .gt 43, 3) := by decide +kernel
theorem d_F_sift_52 : decode b_F_sift 52 = .ok (.aload_n 0, 1) := by decide +kernel
theorem d_F_sift_53 : decode b_F_sift 53 = .ok (.getfield 9, 3) := by decide +kernel
theorem d_F_sift_56 : decode b_F_sift 56 = .ok (.iload_n 3, 1) := by decide +kernel
theorem d_F_sift_57 : decode b_F_sift 57 = .ok (.invokevirtual 38, 3) := by decide +kernel
theorem d_F_sift_60 : decode b_F_sift 60 = .ok (.aload_n 0, 1) := by decide +kernel
theorem d_F_sift_61 : decode b_F_sift 61 = .ok (.getfield 9, 3) := by decide +kernel
theorem d_F_sift_64 : decode b_F_sift 64 = .ok (.invokevirtual 35, 3) := by decide +kernel
theorem d_F_sift_67 : decode b_F_sift 67 = .ok (.iload 5, 2) := by decide +kernel
theorem d_F_sift_69 : decode b_F_sift 69 = .ok (.if_icmp .ge 17, 3) := by decide +kernel
theorem d_F_sift_72 : decode b_F_sift 72 = .ok (.aload_n 0, 1) := by decide +kernel
theorem d_F_sift_73 : decode b_F_sift 73 = .ok (.getfield 9, 3) := by decide +kernel
theorem d_F_sift_76 : decode b_F_sift 76 = .ok (.invokevirtual 35, 3) := by decide +kernel
theorem d_F_sift_79 : decode b_F_sift 79 = .ok (.istore 5, 2) := by decide +kernel
theorem d_F_sift_81 : decode b_F_sift 81 = .ok (.iload_n 3, 1) := by decide +kernel
theorem d_F_sift_82 : decode b_F_sift 82 = .ok (.iconst 1, 1) := by decide +kernel
theorem d_F_sift_83 : decode b_F_sift 83 = .ok (.iadd, 1) := by decide +kernel
theorem d_F_sift_84 : decode b_F_sift 84 = .ok (.istore 4, 2) := by decide +kernel
theorem d_F_sift_86 : decode b_F_sift 86 = .ok (.iinc 3 1, 3) := by decide +kernel
theorem d_F_sift_89 : decode b_F_sift 89 = .ok (.goto (-57), 3) := by decide +kernel
theorem d_F_sift_92 : decode b_F_sift 92 = .ok (.iload_n 3, 1) := by decide +kernel
theorem d_F_sift_93 : decode b_F_sift 93 = .ok (.iload_n 2, 1) := by decide +kernel
theorem d_F_sift_94 : decode b_F_sift 94 = .ok (.if_icmp .gt 19, 3) := by decide +kernel
theorem d_F_sift_97 : decode b_F_sift 97 = .ok (.iload_n 3, 1) := by decide +kernel
theorem d_F_sift_98 : decode b_F_sift 98 = .ok (.ifCond .le 57, 3) := by decide +kernel
theorem d_F_sift_101 : decode b_F_sift 101 = .ok (.aload_n 0, 1) := by decide +kernel
theorem d_F_sift_102 : decode b_F_sift 102 = .ok (.getfield 9, 3) := by decide +kernel
theorem d_F_sift_105 : decode b_F_sift 105 = .ok (.invokevirtual 35, 3) := by decide +kernel
theorem d_F_sift_108 : decode b_F_sift 108 = .ok (.iload 6, 2) := by decide +kernel
theorem d_F_sift_110 : decode b_F_sift 110 = .ok (.if_icmp .gt 45, 3) := by decide +kernel
theorem d_F_sift_113 : decode b_F_sift 113 = .ok (.aload_n 0, 1) := by decide +kernel
theorem d_F_sift_114 : decode b_F_sift 114 = .ok (.getfield 9, 3) := by decide +kernel
theorem d_F_sift_117 : decode b_F_sift 117 = .ok (.iload_n 3, 1) := by decide +kernel
theorem d_F_sift_118 : decode b_F_sift 118 = .ok (.iconst 1, 1) := by decide +kernel
theorem d_F_sift_119 : decode b_F_sift 119 = .ok (.isub, 1) := by decide +kernel
theorem d_F_sift_120 : decode b_F_sift 120 = .ok (.invokevirtual 38, 3) := by decide +kernel
theorem d_F_sift_123 : decode b_F_sift 123 = .ok (.aload_n 0, 1) := by decide +kernel
theorem d_F_sift_124 : decode b_F_sift 124 = .ok (.getfield 9, 3) := by decide +kernel
theorem d_F_sift_127 : decode b_F_sift 127 = .ok (.invokevirtual 35, 3) := by decide +kernel
theorem d_F_sift_130 : decode b_F_sift 130 = .ok (.iload 5, 2) := by decide +kernel
theorem d_F_sift_132 : decode b_F_sift 132 = .ok (.if_icmp .ge 17, 3) := by decide +kernel
theorem d_F_sift_135 : decode b_F_sift 135 = .ok (.aload_n 0, 1) := by decide +kernel
theorem d_F_sift_136 : decode b_F_sift 136 = .ok (.getfield 9, 3) := by decide +kernel
theorem d_F_sift_139 : decode b_F_sift 139 = .ok (.invokevirtual 35, 3) := by decide +kernel
theorem d_F_sift_142 : decode b_F_sift 142 = .ok (.istore 5, 2) := by decide +kernel
theorem d_F_sift_144 : decode b_F_sift 144 = .ok (.iload_n 3, 1) := by decide +kernel
theorem d_F_sift_145 : decode b_F_sift 145 = .ok (.iconst 1, 1) := by decide +kernel
theorem d_F_sift_146 : decode b_F_sift 146 = .ok (.isub, 1) := by decide +kernel
theorem d_F_sift_147 : decode b_F_sift 147 = .ok (.istore 4, 2) := by decide +kernel
theorem d_F_sift_149 : decode b_F_sift 149 = .ok (.iinc 3 (-1), 3) := by decide +kernel
theorem d_F_sift_152 : decode b_F_sift 152 = .ok (.goto (-60), 3) := by decide +kernel
theorem d_F_sift_155 : decode b_F_sift 155 = .ok (.iload_n 3, 1) := by decide +kernel
theorem d_F_sift_156 : decode b_F_sift 156 = .ok (.iload 4, 2) := by decide +kernel
theorem d_F_sift_158 : decode b_F_sift 158 = .ok (.if_icmp .ge 17, 3) := by decide +kernel
theorem d_F_sift_161 : decode b_F_sift 161 = .ok (.aload_n 0, 1) := by decide +kernel
theorem d_F_sift_162 : decode b_F_sift 162 = .ok (.getfield 9, 3) := by decide +kernel
theorem d_F_sift_165 : decode b_F_sift 165 = .ok (.iload_n 3, 1) := by decide +kernel
theorem d_F_sift_166 : decode b_F_sift 166 = .ok (.invokevirtual 38, 3) := by decide +kernel
theorem d_F_sift_169 : decode b_F_sift 169 = .ok (.iinc 3 1, 3) := by decide +kernel
theorem d_F_sift_172 : decode b_F_sift 172 = .ok (.goto (-17), 3) := by decide +kernel
theorem d_F_sift_175 : decode b_F_sift 175 = .ok (.return_, 1) := by decide +kernel
theorem d_N_size_0 : decode b_N_size 0 = .ok (.aload_n 0, 1) := by decide +kernel
theorem d_N_size_1 : decode b_N_size 1 = .ok (.getfield 40, 3) := by decide +kernel
theorem d_N_size_4 : decode b_N_size 4 = .ok (.ireturn, 1) := by decide +kernel
theorem d_N_swap_0 : decode b_N_swap 0 = .ok (.iload_n 1, 1) := by decide +kernel
theorem d_N_swap_1 : decode b_N_swap 1 = .ok (.ifCond .lt 22, 3) := by decide +kernel
theorem d_N_swap_4 : decode b_N_swap 4 = .ok (.iload_n 1, 1) := by decide +kernel
theorem d_N_swap_5 : decode b_N_swap 5 = .ok (.iconst 1, 1) := by decide +kernel
theorem d_N_swap_6 : decode b_N_swap 6 = .ok (.iadd, 1) := by decide +kernel
theorem d_N_swap_7 : decode b_N_swap 7 = .ok (.bipush 12, 2) := by decide +kernel
theorem d_N_swap_9 : decode b_N_swap 9 = .ok (.if_icmp .ge 14, 3) := by decide +kernel
theorem d_N_swap_12 : decode b_N_swap 12 = .ok (.iload_n 1, 1) := by decide +kernel
theorem d_N_swap_13 : decode b_N_swap 13 = .ok (.iconst 1, 1) := by decide +kernel
theorem d_N_swap_14 : decode b_N_swap 14 = .ok (.iadd, 1) := by decide +kernel
theorem d_N_swap_15 : decode b_N_swap 15 = .ok (.aload_n 0, 1) := by decide +kernel
theorem d_N_swap_16 : decode b_N_swap 16 = .ok (.getfield 34, 3) := by decide +kernel
theorem d_N_swap_19 : decode b_N_swap 19 = .ok (.arraylength, 1) := by decide +kernel
theorem d_N_swap_20 : decode b_N_swap 20 = .ok (.if_icmp .lt 4, 3) := by decide +kernel
theorem d_N_swap_23 : decode b_N_swap 23 = .ok (.return_, 1) := by decide +kernel
theorem d_N_swap_24 : decode b_N_swap 24 = .ok (.aload_n 0, 1) := by decide +kernel
theorem d_N_swap_25 : decode b_N_swap 25 = .ok (.getfield 34, 3) := by decide +kernel
theorem d_N_swap_28 : decode b_N_swap 28 = .ok (.iload_n 1, 1) := by decide +kernel
theorem d_N_swap_29 : decode b_N_swap 29 = .ok (.iaload, 1) := by decide +kernel
theorem d_N_swap_30 : decode b_N_swap 30 = .ok (.istore_n 2, 1) := by decide +kernel
theorem d_N_swap_31 : decode b_N_swap 31 = .ok (.aload_n 0, 1) := by decide +kernel
theorem d_N_swap_32 : decode b_N_swap 32 = .ok (.getfield 34, 3) := by decide +kernel
theorem d_N_swap_35 : decode b_N_swap 35 = .ok (.iload_n 1, 1) := by decide +kernel
theorem d_N_swap_36 : decode b_N_swap 36 = .ok (.iconst 1, 1) := by decide +kernel
theorem d_N_swap_37 : decode b_N_swap 37 = .ok (.iadd, 1) := by decide +kernel
theorem d_N_swap_38 : decode b_N_swap 38 = .ok (.iaload, 1) := by decide +kernel
theorem d_N_swap_39 : decode b_N_swap 39 = .ok (.istore_n 3, 1) := by decide +kernel
theorem d_N_swap_40 : decode b_N_swap 40 = .ok (.iload_n 2, 1) := by decide +kernel
theorem d_N_swap_41 : decode b_N_swap 41 = .ok (.ifCond .lt 25, 3) := by decide +kernel
theorem d_N_swap_44 : decode b_N_swap 44 = .ok (.iload_n 2, 1) := by decide +kernel
theorem d_N_swap_45 : decode b_N_swap 45 = .ok (.aload_n 0, 1) := by decide +kernel
theorem d_N_swap_46 : decode b_N_swap 46 = .ok (.getfield 31, 3) := by decide +kernel
theorem d_N_swap_49 : decode b_N_swap 49 = .ok (.arraylength, 1) := by decide +kernel
theorem d_N_swap_50 : decode b_N_swap 50 = .ok (.if_icmp .ge 16, 3) := by decide +kernel
theorem d_N_swap_53 : decode b_N_swap 53 = .ok (.iload_n 3, 1) := by decide +kernel
theorem d_N_swap_54 : decode b_N_swap 54 = .ok (.ifCond .lt 12, 3) := by decide +kernel
theorem d_N_swap_57 : decode b_N_swap 57 = .ok (.iload_n 3, 1) := by decide +kernel
theorem d_N_swap_58 : decode b_N_swap 58 = .ok (.aload_n 0, 1) := by decide +kernel
theorem d_N_swap_59 : decode b_N_swap 59 = .ok (.getfield 31, 3) := by decide +kernel
theorem d_N_swap_62 : decode b_N_swap 62 = .ok (.arraylength, 1) := by decide +kernel
theorem d_N_swap_63 : decode b_N_swap 63 = .ok (.if_icmp .lt 4, 3) := by decide +kernel
theorem d_N_swap_66 : decode b_N_swap 66 = .ok (.return_, 1) := by decide +kernel
theorem d_N_swap_67 : decode b_N_swap 67 = .ok (.aload_n 0, 1) := by decide +kernel
theorem d_N_swap_68 : decode b_N_swap 68 = .ok (.getfield 34, 3) := by decide +kernel
theorem d_N_swap_71 : decode b_N_swap 71 = .ok (.iload_n 1, 1) := by decide +kernel
theorem d_N_swap_72 : decode b_N_swap 72 = .ok (.iload_n 3, 1) := by decide +kernel
theorem d_N_swap_73 : decode b_N_swap 73 = .ok (.iastore, 1) := by decide +kernel
theorem d_N_swap_74 : decode b_N_swap 74 = .ok (.aload_n 0, 1) := by decide +kernel
theorem d_N_swap_75 : decode b_N_swap 75 = .ok (.getfield 34, 3) := by decide +kernel
theorem d_N_swap_78 : decode b_N_swap 78 = .ok (.iload_n 1, 1) := by decide +kernel
theorem d_N_swap_79 : decode b_N_swap 79 = .ok (.iconst 1, 1) := by decide +kernel
theorem d_N_swap_80 : decode b_N_swap 80 = .ok (.iadd, 1) := by decide +kernel
theorem d_N_swap_81 : decode b_N_swap 81 = .ok (.iload_n 2, 1) := by decide +kernel
theorem d_N_swap_82 : decode b_N_swap 82 = .ok (.iastore, 1) := by decide +kernel
theorem d_N_swap_83 : decode b_N_swap 83 = .ok (.aload_n 0, 1) := by decide +kernel
theorem d_N_swap_84 : decode b_N_swap 84 = .ok (.getfield 31, 3) := by decide +kernel
theorem d_N_swap_87 : decode b_N_swap 87 = .ok (.iload_n 3, 1) := by decide +kernel
theorem d_N_swap_88 : decode b_N_swap 88 = .ok (.iload_n 1, 1) := by decide +kernel
theorem d_N_swap_89 : decode b_N_swap 89 = .ok (.iastore, 1) := by decide +kernel
theorem d_N_swap_90 : decode b_N_swap 90 = .ok (.aload_n 0, 1) := by decide +kernel
theorem d_N_swap_91 : decode b_N_swap 91 = .ok (.getfield 31, 3) := by decide +kernel
theorem d_N_swap_94 : decode b_N_swap 94 = .ok (.iload_n 2, 1) := by decide +kernel
theorem d_N_swap_95 : decode b_N_swap 95 = .ok (.iload_n 1, 1) := by decide +kernel
theorem d_N_swap_96 : decode b_N_swap 96 = .ok (.iconst 1, 1) := by decide +kernel
theorem d_N_swap_97 : decode b_N_swap 97 = .ok (.iadd, 1) := by decide +kernel
theorem d_N_swap_98 : decode b_N_swap 98 = .ok (.iastore, 1) := by decide +kernel
theorem d_N_swap_99 : decode b_N_swap 99 = .ok (.aload_n 0, 1) := by decide +kernel
theorem d_N_swap_100 : decode b_N_swap 100 = .ok (.iload_n 2, 1) := by decide +kernel
theorem d_N_swap_101 : decode b_N_swap 101 = .ok (.invokevirtual 109, 3) := by decide +kernel
theorem d_N_swap_104 : decode b_N_swap 104 = .ok (.ifCond .eq 11, 3) := by decide +kernel
theorem d_N_swap_107 : decode b_N_swap 107 = .ok (.aload_n 0, 1) := by decide +kernel
theorem d_N_swap_108 : decode b_N_swap 108 = .ok (.iload_n 3, 1) := by decide +kernel
theorem d_N_swap_109 : decode b_N_swap 109 = .ok (.invokevirtual 109, 3) := by decide +kernel
theorem d_N_swap_112 : decode b_N_swap 112 = .ok (.ifCond .ne 4, 3) := by decide +kernel
theorem d_N_swap_115 : decode b_N_swap 115 = .ok (.return_, 1) := by decide +kernel
theorem d_N_swap_116 : decode b_N_swap 116 = .ok (.aload_n 0, 1) := by decide +kernel
theorem d_N_swap_117 : decode b_N_swap 117 = .ok (.aload_n 0, 1) := by decide +kernel
theorem d_N_swap_118 : decode b_N_swap 118 = .ok (.getfield 40, 3) := by decide +kernel
theorem d_N_swap_121 : decode b_N_swap 121 = .ok (.iconst 2, 1) := by decide +kernel
theorem d_N_swap_122 : decode b_N_swap 122 = .ok (.aload_n 0, 1) := by decide +kernel
theorem d_N_swap_123 : decode b_N_swap 123 = .ok (.iload_n 2, 1) := by decide +kernel
theorem d_N_swap_124 : decode b_N_swap 124 = .ok (.invokevirtual 109, 3) := by decide +kernel
theorem d_N_swap_127 : decode b_N_swap 127 = .ok (.imul, 1) := by decide +kernel
theorem d_N_swap_128 : decode b_N_swap 128 = .ok (.iadd, 1) := by decide +kernel
theorem d_N_swap_129 : decode b_N_swap 129 = .ok (.invokevirtual 93, 3) := by decide +kernel
theorem d_N_swap_132 : decode b_N_swap 132 = .ok (.aload_n 0, 1) := by decide +kernel
theorem d_N_swap_133 : decode b_N_swap 133 = .ok (.iload_n 2, 1) := by decide +kernel
theorem d_N_swap_134 : decode b_N_swap 134 = .ok (.iload_n 3, 1) := by decide +kernel
theorem d_N_swap_135 : decode b_N_swap 135 = .ok (.invokevirtual 112, 3) := by decide +kernel
theorem d_N_swap_138 : decode b_N_swap 138 = .ok (.istore 4, 2) := by decide +kernel
theorem d_N_swap_140 : decode b_N_swap 140 = .ok (.iconst 0, 1) := by decide +kernel
theorem d_N_swap_141 : decode b_N_swap 141 = .ok (.istore 5, 2) := by decide +kernel
theorem d_N_swap_143 : decode b_N_swap 143 = .ok (.iload 5, 2) := by decide +kernel
theorem d_N_swap_145 : decode b_N_swap 145 = .ok (.sipush 24800, 3) := by decide +kernel
theorem d_N_swap_148 : decode b_N_swap 148 = .ok (.if_icmp .ge 35, 3) := by decide +kernel
theorem d_N_swap_151 : decode b_N_swap 151 = .ok (.iload 4, 2) := by decide +kernel
theorem d_N_swap_153 : decode b_N_swap 153 = .ok (.ifCond .eq 30, 3) := by decide +kernel
theorem d_N_swap_156 : decode b_N_swap 156 = .ok (.aload_n 0, 1) := by decide +kernel
theorem d_N_swap_157 : decode b_N_swap 157 = .ok (.iload 4, 2) := by decide +kernel
theorem d_N_swap_159 : decode b_N_swap 159 = .ok (.iconst 3, 1) := by decide +kernel
theorem d_N_swap_160 : decode b_N_swap 160 = .ok (.invokevirtual 46, 3) := by decide +kernel
theorem d_N_swap_163 : decode b_N_swap 163 = .ok (.istore 6, 2) := by decide +kernel
theorem d_N_swap_165 : decode b_N_swap 165 = .ok (.aload_n 0, 1) := by decide +kernel
theorem d_N_swap_166 : decode b_N_swap 166 = .ok (.iload 4, 2) := by decide +kernel
theorem d_N_swap_168 : decode b_N_swap 168 = .ok (.iload_n 2, 1) := by decide +kernel
theorem d_N_swap_169 : decode b_N_swap 169 = .ok (.iload_n 3, 1) := by decide +kernel
theorem d_N_swap_170 : decode b_N_swap 170 = .ok (.invokevirtual 115, 3) := by decide +kernel
theorem d_N_swap_173 : decode b_N_swap 173 = .ok (.iload 6, 2) := by decide +kernel
theorem d_N_swap_175 : decode b_N_swap 175 = .ok (.istore 4, 2) := by decide +kernel
theorem d_N_swap_177 : decode b_N_swap 177 = .ok (.iinc 5 1, 3) := by decide +kernel
theorem d_N_swap_180 : decode b_N_swap 180 = .ok (.goto (-37), 3) := by decide +kernel
theorem d_N_swap_183 : decode b_N_swap 183 = .ok (.return_, 1) := by decide +kernel
theorem d_N_detach_0 : decode b_N_detach 0 = .ok (.iconst 0, 1) := by decide +kernel
theorem d_N_detach_1 : decode b_N_detach 1 = .ok (.istore_n 3, 1) := by decide +kernel
theorem d_N_detach_2 : decode b_N_detach 2 = .ok (.iload_n 1, 1) := by decide +kernel
theorem d_N_detach_3 : decode b_N_detach 3 = .ok (.bipush 64, 2) := by decide +kernel
theorem d_N_detach_5 : decode b_N_detach 5 = .ok (.imul, 1) := by decide +kernel
theorem d_N_detach_6 : decode b_N_detach 6 = .ok (.istore 4, 2) := by decide +kernel
theorem d_N_detach_8 : decode b_N_detach 8 = .ok (.iload 4, 2) := by decide +kernel
theorem d_N_detach_10 : decode b_N_detach 10 = .ok (.istore 5, 2) := by decide +kernel
theorem d_N_detach_12 : decode b_N_detach 12 = .ok (.iload 5, 2) := by decide +kernel
theorem d_N_detach_14 : decode b_N_detach 14 = .ok (.iload 4, 2) := by decide +kernel
theorem d_N_detach_16 : decode b_N_detach 16 = .ok (.bipush 64, 2) := by decide +kernel
theorem d_N_detach_18 : decode b_N_detach 18 = .ok (.iadd, 1) := by decide +kernel
theorem d_N_detach_19 : decode b_N_detach 19 = .ok (.if_icmp .ge 164, 3) := by decide +kernel
theorem d_N_detach_22 : decode b_N_detach 22 = .ok (.iload 5, 2) := by decide +kernel
theorem d_N_detach_24 : decode b_N_detach 24 = .ok (.ifCond .lt 26, 3) := by decide +kernel
theorem d_N_detach_27 : decode b_N_detach 27 = .ok (.iload 5, 2) := by decide +kernel
theorem d_N_detach_29 : decode b_N_detach 29 = .ok (.aload_n 0, 1) := by decide +kernel
theorem d_N_detach_30 : decode b_N_detach 30 = .ok (.getfield 25, 3) := by decide +kernel
theorem d_N_detach_33 : decode b_N_detach 33 = .ok (.arraylength, 1) := by decide +kernel
theorem d_N_detach_34 : decode b_N_detach 34 = .ok (.if_icmp .ge 16, 3) := by decide +kernel
theorem d_N_detach_37 : decode b_N_detach 37 = .ok (.iload_n 1, 1) := by decide +kernel
theorem d_N_detach_38 : decode b_N_detach 38 = .ok (.ifCond .lt 12, 3) := by decide +kernel
theorem d_N_detach_41 : decode b_N_detach 41 = .ok (.iload_n 1, 1) := by decide +kernel
theorem d_N_detach_42 : decode b_N_detach 42 = .ok (.aload_n 0, 1) := by decide +kernel
theorem d_N_detach_43 : decode b_N_detach 43 = .ok (.getfield 28, 3) := by decide +kernel
theorem d_N_detach_46 : decode b_N_detach 46 = .ok (.arraylength, 1) := by decide +kernel
theorem d_N_detach_47 : decode b_N_detach 47 = .ok (.if_icmp .lt 5, 3) := by decide +kernel
theorem d_N_detach_50 : decode b_N_detach 50 = .ok (.iload_n 3, 1) := by decide +kernel
theorem d_N_detach_51 : decode b_N_detach 51 = .ok (.ireturn, 1) := by decide +kernel
theorem d_N_detach_52 : decode b_N_detach 52 = .ok (.iconst 0, 1) := by decide +kernel
theorem d_N_detach_53 : decode b_N_detach 53 = .ok (.istore 6, 2) := by decide +kernel
theorem d_N_detach_55 : decode b_N_detach 55 = .ok (.aload_n 0, 1) := by decide +kernel
theorem d_N_detach_56 : decode b_N_detach 56 = .ok (.getfield 25, 3) := by decide +kernel
theorem d_N_detach_59 : decode b_N_detach 59 = .ok (.iload 5, 2) := by decide +kernel
theorem d_N_detach_61 : decode b_N_detach 61 = .ok (.iaload, 1) := by decide +kernel
theorem d_N_detach_62 : decode b_N_detach 62 = .ok (.istore 7, 2) := by decide +kernel
theorem d_N_detach_64 : decode b_N_detach 64 = .ok (.iconst 0, 1) := by decide +kernel
theorem d_N_detach_65 : decode b_N_detach 65 = .ok (.istore 8, 2) := by decide +kernel
theorem d_N_detach_67 : decode b_N_detach 67 = .ok (.iload 8, 2) := by decide +kernel
theorem d_N_detach_69 : decode b_N_detach 69 = .ok (.sipush 24800, 3) := by decide +kernel
theorem d_N_detach_72 : decode b_N_detach 72 = .ok (.if_icmp .ge 96, 3) := by decide +kernel
theorem d_N_detach_75 : decode b_N_detach 75 = .ok (.iload 7, 2) := by decide +kernel
theorem d_N_detach_77 : decode b_N_detach 77 = .ok (.ifCond .eq 91, 3) := by decide +kernel
theorem d_N_detach_80 : decode b_N_detach 80 = .ok (.aload_n 0, 1) := by decide +kernel
theorem d_N_detach_81 : decode b_N_detach 81 = .ok (.iload 7, 2) := by decide +kernel
theorem d_N_detach_83 : decode b_N_detach 83 = .ok (.iconst 3, 1) := by decide +kernel
theorem d_N_detach_84 : decode b_N_detach 84 = .ok (.invokevirtual 46, 3) := by decide +kernel
theorem d_N_detach_87 : decode b_N_detach 87 = .ok (.istore 9, 2) := by decide +kernel
theorem d_N_detach_89 : decode b_N_detach 89 = .ok (.aload_n 0, 1) := by decide +kernel
theorem d_N_detach_90 : decode b_N_detach 90 = .ok (.aload_n 0, 1) := by decide +kernel
theorem d_N_detach_91 : decode b_N_detach 91 = .ok (.iload 7, 2) := by decide +kernel
theorem d_N_detach_93 : decode b_N_detach 93 = .ok (.iconst 1, 1) := by decide +kernel
theorem d_N_detach_94 : decode b_N_detach 94 = .ok (.invokevirtual 46, 3) := by decide +kernel
theorem d_N_detach_97 : decode b_N_detach 97 = .ok (.iconst 0, 1) := by decide +kernel
theorem d_N_detach_98 : decode b_N_detach 98 = .ok (.invokevirtual 46, 3) := by decide +kernel
theorem d_N_detach_101 : decode b_N_detach 101 = .ok (.iload_n 2, 1) := by decide +kernel
theorem d_N_detach_102 : decode b_N_detach 102 = .ok (.if_icmp .eq 19, 3) := by decide +kernel
theorem d_N_detach_105 : decode b_N_detach 105 = .ok (.aload_n 0, 1) := by decide +kernel
theorem d_N_detach_106 : decode b_N_detach 106 = .ok (.aload_n 0, 1) := by decide +kernel
theorem d_N_detach_107 : decode b_N_detach 107 = .ok (.iload 7, 2) := by decide +kernel
theorem d_N_detach_109 : decode b_N_detach 109 = .ok (.iconst 2, 1) := by decide +kernel
theorem d_N_detach_110 : decode b_N_detach 110 = .ok (.invokevirtual 46, 3) := by decide +kernel
theorem d_N_detach_113 : decode b_N_detach 113 = .ok (.iconst 0, 1) := by decide +kernel
theorem d_N_detach_114 : decode b_N_detach 114 = .ok (.invokevirtual 46, 3) := by decide +kernel
theorem d_N_detach_117 : decode b_N_detach 117 = .ok (.iload_n 2, 1) := by decide +kernel
theorem d_N_detach_118 : decode b_N_detach 118 = .ok (.if_icmp .ne 27, 3) := by decide +kernel
theorem d_N_detach_121 : decode b_N_detach 121 = .ok (.aload_n 0, 1) := by decide +kernel
theorem d_N_detach_122 : decode b_N_detach 122 = .ok (.iload 7, 2) := by decide +kernel
theorem d_N_detach_124 : decode b_N_detach 124 = .ok (.iconst 3, 1) := by decide +kernel
theorem d_N_detach_125 : decode b_N_detach 125 = .ok (.iload_n 3, 1) := by decide +kernel
theorem d_N_detach_126 : decode b_N_detach 126 = .ok (.invokevirtual 65, 3) := by decide +kernel
theorem d_N_detach_129 : decode b_N_detach 129 = .ok (.iload 7, 2) := by decide +kernel
theorem d_N_detach_131 : decode b_N_detach 131 = .ok (.istore_n 3, 1) := by decide +kernel
theorem d_N_detach_132 : decode b_N_detach 132 = .ok (.aload_n 0, 1) := by decide +kernel
theorem d_N_detach_133 : decode b_N_detach 133 = .ok (.getfield 28, 3) := by decide +kernel
theorem d_N_detach_136 : decode b_N_detach 136 = .ok (.iload_n 1, 1) := by decide +kernel
theorem d_N_detach_137 : decode b_N_detach 137 = .ok (.dup2, 1) := by decide +kernel
theorem d_N_detach_138 : decode b_N_detach 138 = .ok (.iaload, 1) := by decide +kernel
theorem d_N_detach_139 : decode b_N_detach 139 = .ok (.iconst 1, 1) := by decide +kernel
theorem d_N_detach_140 : decode b_N_detach 140 = .ok (.isub, 1) := by decide +kernel
theorem d_N_detach_141 : decode b_N_detach 141 = .ok (.iastore, 1) := by decide +kernel
theorem d_N_detach_142 : decode b_N_detach 142 = .ok (.goto 16, 3) := by decide +kernel
theorem d_N_detach_145 : decode b_N_detach 145 = .ok (.aload_n 0, 1) := by decide +kernel
theorem d_N_detach_146 : decode b_N_detach 146 = .ok (.iload 7, 2) := by decide +kernel
theorem d_N_detach_148 : decode b_N_detach 148 = .ok (.iconst 3, 1) := by decide +kernel
theorem d_N_detach_149 : decode b_N_detach 149 = .ok (.iload 6, 2) := by decide +kernel
theorem d_N_detach_151 : decode b_N_detach 151 = .ok (.invokevirtual 65, 3) := by decide +kernel
theorem d_N_detach_154 : decode b_N_detach 154 = .ok (.iload 7, 2) := by decide +kernel
theorem d_N_detach_156 : decode b_N_detach 156 = .ok (.istore 6, 2) := by decide +kernel
theorem d_N_detach_158 : decode b_N_detach 158 = .ok (.iload 9, 2) := by decide +kernel
theorem d_N_detach_160 : decode b_N_detach 160 = .ok (.istore 7, 2) := by decide +kernel
theorem d_N_detach_162 : decode b_N_detach 162 = .ok (.iinc 8 1, 3) := by decide +kernel
theorem d_N_detach_165 : decode b_N_detach 165 = .ok (.goto (-98), 3) := by decide +kernel
theorem d_N_detach_168 : decode b_N_detach 168 = .ok (.aload_n 0, 1) := by decide +kernel
theorem d_N_detach_169 : decode b_N_detach 169 = .ok (.getfield 25, 3) := by decide +kernel
theorem d_N_detach_172 : decode b_N_detach 172 = .ok (.iload 5, 2) := by decide +kernel
theorem d_N_detach_174 : decode b_N_detach 174 = .ok (.iload 6, 2) := by decide +kernel
theorem d_N_detach_176 : decode b_N_detach 176 = .ok (.iastore, 1) := by decide +kernel
theorem d_N_detach_177 : decode b_N_detach 177 = .ok (.iinc 5 1, 3) := by decide +kernel
theorem d_N_detach_180 : decode b_N_detach 180 = .ok (.goto (-168), 3) := by decide +kernel
theorem d_N_detach_183 : decode b_N_detach 183 = .ok (.iload_n 3, 1) := by decide +kernel
theorem d_N_detach_184 : decode b_N_detach 184 = .ok (.ireturn, 1) := by decide +kernel
theorem d_N_rewrite_0 : decode b_N_rewrite 0 = .ok (.aload_n 0, 1) := by decide +kernel
theorem d_N_rewrite_1 : decode b_N_rewrite 1 = .ok (.iload_n 1, 1) := by decide +kernel
theorem d_N_rewrite_2 : decode b_N_rewrite 2 = .ok (.iconst 1, 1) := by decide +kernel
theorem d_N_rewrite_3 : decode b_N_rewrite 3 = .ok (.invokevirtual 46, 3) := by decide +kernel
theorem d_N_rewrite_6 : decode b_N_rewrite 6 = .ok (.istore 4, 2) := by decide +kernel
theorem d_N_rewrite_8 : decode b_N_rewrite 8 = .ok (.aload_n 0, 1) := by decide +kernel
theorem d_N_rewrite_9 : decode b_N_rewrite 9 = .ok (.iload_n 1, 1) := by decide +kernel
theorem d_N_rewrite_10 : decode b_N_rewrite 10 = .ok (.iconst 2, 1) := by decide +kernel
theorem d_N_rewrite_11 : decode b_N_rewrite 11 = .ok (.invokevirtual 46, 3) := by decide +kernel
theorem d_N_rewrite_14 : decode b_N_rewrite 14 = .ok (.istore 5, 2) := by decide +kernel
theorem d_N_rewrite_16 : decode b_N_rewrite 16 = .ok (.aload_n 0, 1) := by decide +kernel
theorem d_N_rewrite_17 : decode b_N_rewrite 17 = .ok (.iload_n 2, 1) := by decide +kernel
theorem d_N_rewrite_18 : decode b_N_rewrite 18 = .ok (.aload_n 0, 1) := by decide +kernel
theorem d_N_rewrite_19 : decode b_N_rewrite 19 = .ok (.iload 4, 2) := by decide +kernel
theorem d_N_rewrite_21 : decode b_N_rewrite 21 = .ok (.iload_n 3, 1) := by decide +kernel
theorem d_N_rewrite_22 : decode b_N_rewrite 22 = .ok (.invokevirtual 118, 3) := by decide +kernel
theorem d_N_rewrite_25 : decode b_N_rewrite 25 = .ok (.aload_n 0, 1) := by decide +kernel
theorem d_N_rewrite_26 : decode b_N_rewrite 26 = .ok (.iload 5, 2) := by decide +kernel
theorem d_N_rewrite_28 : decode b_N_rewrite 28 = .ok (.iload_n 3, 1) := by decide +kernel
theorem d_N_rewrite_29 : decode b_N_rewrite 29 = .ok (.invokevirtual 118, 3) := by decide +kernel
theorem d_N_rewrite_32 : decode b_N_rewrite 32 = .ok (.invokevirtual 121, 3) := by decide +kernel
theorem d_N_rewrite_35 : decode b_N_rewrite 35 = .ok (.istore 6, 2) := by decide +kernel
theorem d_N_rewrite_37 : decode b_N_rewrite 37 = .ok (.aload_n 0, 1) := by decide +kernel
theorem d_N_rewrite_38 : decode b_N_rewrite 38 = .ok (.iload_n 2, 1) := by decide +kernel
theorem d_N_rewrite_39 : decode b_N_rewrite 39 = .ok (.aload_n 0, 1) := by decide +kernel
theorem d_N_rewrite_40 : decode b_N_rewrite 40 = .ok (.iload 4, 2) := by decide +kernel
theorem d_N_rewrite_42 : decode b_N_rewrite 42 = .ok (.iload_n 3, 1) := by decide +kernel
theorem d_N_rewrite_43 : decode b_N_rewrite 43 = .ok (.invokevirtual 124, 3) := by decide +kernel
theorem d_N_rewrite_46 : decode b_N_rewrite 46 = .ok (.aload_n 0, 1) := by decide +kernel
theorem d_N_rewrite_47 : decode b_N_rewrite 47 = .ok (.iload 5, 2) := by decide +kernel
theorem d_N_rewrite_49 : decode b_N_rewrite 49 = .ok (.iload_n 3, 1) := by decide +kernel
theorem d_N_rewrite_50 : decode b_N_rewrite 50 = .ok (.invokevirtual 124, 3) := by decide +kernel
theorem d_N_rewrite_53 : decode b_N_rewrite 53 = .ok (.invokevirtual 121, 3) := by decide +kernel
theorem d_N_rewrite_56 : decode b_N_rewrite 56 = .ok (.istore 7, 2) := by decide +kernel
theorem d_N_rewrite_58 : decode b_N_rewrite 58 = .ok (.aload_n 0, 1) := by decide +kernel
theorem d_N_rewrite_59 : decode b_N_rewrite 59 = .ok (.iload 6, 2) := by decide +kernel
theorem d_N_rewrite_61 : decode b_N_rewrite 61 = .ok (.iconst 1, 1) := by decide +kernel
theorem d_N_rewrite_62 : decode b_N_rewrite 62 = .ok (.invokevirtual 77, 3) := by decide +kernel
theorem d_N_rewrite_65 : decode b_N_rewrite 65 = .ok (.aload_n 0, 1) := by decide +kernel
theorem d_N_rewrite_66 : decode b_N_rewrite 66 = .ok (.iload 7, 2) := by decide +kernel
theorem d_N_rewrite_68 : decode b_N_rewrite 68 = .ok (.iconst 1, 1) := by decide +kernel
theorem d_N_rewrite_69 : decode b_N_rewrite 69 = .ok (.invokevirtual 77, 3) := by decide +kernel
theorem d_N_rewrite_72 : decode b_N_rewrite 72 = .ok (.aload_n 0, 1) := by decide +kernel
theorem d_N_rewrite_73 : decode b_N_rewrite 73 = .ok (.iload_n 1, 1) := by decide +kernel
theorem d_N_rewrite_74 : decode b_N_rewrite 74 = .ok (.iload_n 3, 1) := by decide +kernel
theorem d_N_rewrite_75 : decode b_N_rewrite 75 = .ok (.iload 6, 2) := by decide +kernel
theorem d_N_rewrite_77 : decode b_N_rewrite 77 = .ok (.iload 7, 2) := by decide +kernel
theorem d_N_rewrite_79 : decode b_N_rewrite 79 = .ok (.invokevirtual 81, 3) := by decide +kernel
theorem d_N_rewrite_82 : decode b_N_rewrite 82 = .ok (.aload_n 0, 1) := by decide +kernel
theorem d_N_rewrite_83 : decode b_N_rewrite 83 = .ok (.iload 4, 2) := by decide +kernel
theorem d_N_rewrite_85 : decode b_N_rewrite 85 = .ok (.invokevirtual 127, 3) := by decide +kernel
theorem d_N_rewrite_88 : decode b_N_rewrite 88 = .ok (.aload_n 0, 1) := by decide +kernel
theorem d_N_rewrite_89 : decode b_N_rewrite 89 = .ok (.iload 5, 2) := by decide +kernel
theorem d_N_rewrite_91 : decode b_N_rewrite 91 = .ok (.invokevirtual 127, 3) := by decide +kernel
theorem d_N_rewrite_94 : decode b_N_rewrite 94 = .ok (.aload_n 0, 1) := by decide +kernel
theorem d_N_rewrite_95 : decode b_N_rewrite 95 = .ok (.dup, 1) := by decide +kernel
theorem d_N_rewrite_96 : decode b_N_rewrite 96 = .ok (.getfield 43, 3) := by decide +kernel
theorem d_N_rewrite_99 : decode b_N_rewrite 99 = .ok (.iconst 1, 1) := by decide +kernel
theorem d_N_rewrite_100 : decode b_N_rewrite 100 = .ok (.iadd, 1) := by decide +kernel
theorem d_N_rewrite_101 : decode b_N_rewrite 101 = .ok (.putfield 43, 3) := by decide +kernel
theorem d_N_rewrite_104 : decode b_N_rewrite 104 = .ok (.return_, 1) := by decide +kernel
theorem d_N_release_0 : decode b_N_release 0 = .ok (.aload_n 0, 1) := by decide +kernel
theorem d_N_release_1 : decode b_N_release 1 = .ok (.iload_n 1, 1) := by decide +kernel
theorem d_N_release_2 : decode b_N_release 2 = .ok (.iconst (-1), 1) := by decide +kernel
theorem d_N_release_3 : decode b_N_release 3 = .ok (.invokevirtual 77, 3) := by decide +kernel
theorem d_N_release_6 : decode b_N_release 6 = .ok (.iload_n 1, 1) := by decide +kernel
theorem d_N_release_7 : decode b_N_release 7 = .ok (.iconst 1, 1) := by decide +kernel
theorem d_N_release_8 : decode b_N_release 8 = .ok (.if_icmp .le 44, 3) := by decide +kernel
theorem d_N_release_11 : decode b_N_release 11 = .ok (.aload_n 0, 1) := by decide +kernel
theorem d_N_release_12 : decode b_N_release 12 = .ok (.iload_n 1, 1) := by decide +kernel
theorem d_N_release_13 : decode b_N_release 13 = .ok (.iconst 4, 1) := by decide +kernel
theorem d_N_release_14 : decode b_N_release 14 = .ok (.invokevirtual 46, 3) := by decide +kernel
theorem d_N_release_17 : decode b_N_release 17 = .ok (.ifCond .gt 35, 3) := by decide +kernel
theorem d_N_release_20 : decode b_N_release 20 = .ok (.aload_n 0, 1) := by decide +kernel
theorem d_N_release_21 : decode b_N_release 21 = .ok (.iload_n 1, 1) := by decide +kernel
theorem d_N_release_22 : decode b_N_release 22 = .ok (.invokevirtual 130, 3) := by decide +kernel
theorem d_N_release_25 : decode b_N_release 25 = .ok (.aload_n 0, 1) := by decide +kernel
theorem d_N_release_26 : decode b_N_release 26 = .ok (.aload_n 0, 1) := by decide +kernel
theorem d_N_release_27 : decode b_N_release 27 = .ok (.iload_n 1, 1) := by decide +kernel
theorem d_N_release_28 : decode b_N_release 28 = .ok (.iconst 1, 1) := by decide +kernel
theorem d_N_release_29 : decode b_N_release 29 = .ok (.invokevirtual 46, 3) := by decide +kernel
theorem d_N_release_32 : decode b_N_release 32 = .ok (.iconst (-1), 1) := by decide +kernel
theorem d_N_release_33 : decode b_N_release 33 = .ok (.invokevirtual 77, 3) := by decide +kernel
theorem d_N_release_36 : decode b_N_release 36 = .ok (.aload_n 0, 1) := by decide +kernel
theorem d_N_release_37 : decode b_N_release 37 = .ok (.aload_n 0, 1) := by decide +kernel
theorem d_N_release_38 : decode b_N_release 38 = .ok (.iload_n 1, 1) := by decide +kernel
theorem d_N_release_39 : decode b_N_release 39 = .ok (.iconst 2, 1) := by decide +kernel
theorem d_N_release_40 : decode b_N_release 40 = .ok (.invokevirtual 46, 3) := by decide +kernel
theorem d_N_release_43 : decode b_N_release 43 = .ok (.iconst (-1), 1) := by decide +kernel
theorem d_N_release_44 : decode b_N_release 44 = .ok (.invokevirtual 77, 3) := by decide +kernel
theorem d_N_release_47 : decode b_N_release 47 = .ok (.aload_n 0, 1) := by decide +kernel
theorem d_N_release_48 : decode b_N_release 48 = .ok (.iload_n 1, 1) := by decide +kernel
theorem d_N_release_49 : decode b_N_release 49 = .ok (.invokevirtual 106, 3) := by decide +kernel
theorem d_N_release_52 : decode b_N_release 52 = .ok (.return_, 1) := by decide +kernel
theorem d_N_unlink_0 : decode b_N_unlink 0 = .ok (.aload_n 0, 1) := by decide +kernel
theorem d_N_unlink_1 : decode b_N_unlink 1 = .ok (.iload_n 1, 1) := by decide +kernel
theorem d_N_unlink_2 : decode b_N_unlink 2 = .ok (.iconst 0, 1) := by decide +kernel
theorem d_N_unlink_3 : decode b_N_unlink 3 = .ok (.invokevirtual 46, 3) := by decide +kernel
theorem d_N_unlink_6 : decode b_N_unlink 6 = .ok (.istore_n 2, 1) := by decide +kernel
theorem d_N_unlink_7 : decode b_N_unlink 7 = .ok (.iload_n 2, 1) := by decide +kernel
theorem d_N_unlink_8 : decode b_N_unlink 8 = .ok (.aload_n 0, 1) := by decide +kernel
theorem d_N_unlink_9 : decode b_N_unlink 9 = .ok (.iload_n 1, 1) := by decide +kernel
theorem d_N_unlink_10 : decode b_N_unlink 10 = .ok (.iconst 1, 1) := by decide +kernel
theorem d_N_unlink_11 : decode b_N_unlink 11 = .ok (.invokevirtual 46, 3) := by decide +kernel
theorem d_N_unlink_14 : decode b_N_unlink 14 = .ok (.aload_n 0, 1) := by decide +kernel
theorem d_N_unlink_15 : decode b_N_unlink 15 = .ok (.iload_n 1, 1) := by decide +kernel
theorem d_N_unlink_16 : decode b_N_unlink 16 = .ok (.iconst 2, 1) := by decide +kernel
theorem d_N_unlink_17 : decode b_N_unlink 17 = .ok (.invokevirtual 46, 3) := by decide +kernel
theorem d_N_unlink_20 : decode b_N_unlink 20 = .ok (.invokestatic 69, 3) := by decide +kernel
theorem d_N_unlink_23 : decode b_N_unlink 23 = .ok (.istore_n 3, 1) := by decide +kernel
theorem d_N_unlink_24 : decode b_N_unlink 24 = .ok (.iload_n 2, 1) := by decide +kernel
theorem d_N_unlink_25 : decode b_N_unlink 25 = .ok (.ifCond .lt 25, 3) := by decide +kernel
theorem d_N_unlink_28 : decode b_N_unlink 28 = .ok (.iload_n 2, 1) := by decide +kernel
theorem d_N_unlink_29 : decode b_N_unlink 29 = .ok (.aload_n 0, 1) := by decide +kernel
theorem d_N_unlink_30 : decode b_N_unlink 30 = .ok (.getfield 28, 3) := by decide +kernel
theorem d_N_unlink_33 : decode b_N_unlink 33 = .ok (.arraylength, 1) := by decide +kernel
theorem d_N_unlink_34 : decode b_N_unlink 34 = .ok (.if_icmp .ge 16, 3) := by decide +kernel
theorem d_N_unlink_37 : decode b_N_unlink 37 = .ok (.iload_n 3, 1) := by decide +kernel
theorem d_N_unlink_38 : decode b_N_unlink 38 = .ok (.ifCond .lt 12, 3) := by decide +kernel
theorem d_N_unlink_41 : decode b_N_unlink 41 = .ok (.iload_n 3, 1) := by decide +kernel
theorem d_N_unlink_42 : decode b_N_unlink 42 = .ok (.aload_n 0, 1) := by decide +kernel
theorem d_N_unlink_43 : decode b_N_unlink 43 = .ok (.getfield 25, 3) := by decide +kernel
theorem d_N_unlink_46 : decode b_N_unlink 46 = .ok (.arraylength, 1) := by decide +kernel
theorem d_N_unlink_47 : decode b_N_unlink 47 = .ok (.if_icmp .lt 4, 3) := by decide +kernel
theorem d_N_unlink_50 : decode b_N_unlink 50 = .ok (.return_, 1) := by decide +kernel
theorem d_N_unlink_51 : decode b_N_unlink 51 = .ok (.aload_n 0, 1) := by decide +kernel
theorem d_N_unlink_52 : decode b_N_unlink 52 = .ok (.getfield 28, 3) := by decide +kernel
theorem d_N_unlink_55 : decode b_N_unlink 55 = .ok (.iload_n 2, 1) := by decide +kernel
theorem d_N_unlink_56 : decode b_N_unlink 56 = .ok (.dup2, 1) := by decide +kernel
theorem d_N_unlink_57 : decode b_N_unlink 57 = .ok (.iaload, 1) := by decide +kernel
theorem d_N_unlink_58 : decode b_N_unlink 58 = .ok (.iconst 1, 1) := by decide +kernel
theorem d_N_unlink_59 : decode b_N_unlink 59 = .ok (.isub, 1) := by decide +kernel
theorem d_N_unlink_60 : decode b_N_unlink 60 = .ok (.iastore, 1) := by decide +kernel
theorem d_N_unlink_61 : decode b_N_unlink 61 = .ok (.aload_n 0, 1) := by decide +kernel
theorem d_N_unlink_62 : decode b_N_unlink 62 = .ok (.getfield 25, 3) := by decide +kernel
theorem d_N_unlink_65 : decode b_N_unlink 65 = .ok (.iload_n 3, 1) := by decide +kernel
theorem d_N_unlink_66 : decode b_N_unlink 66 = .ok (.iaload, 1) := by decide +kernel
theorem d_N_unlink_67 : decode b_N_unlink 67 = .ok (.iload_n 1, 1) := by decide +kernel
theorem d_N_unlink_68 : decode b_N_unlink 68 = .ok (.if_icmp .ne 16, 3) := by decide +kernel
theorem d_N_unlink_71 : decode b_N_unlink 71 = .ok (.aload_n 0, 1) := by decide +kernel
theorem d_N_unlink_72 : decode b_N_unlink 72 = .ok (.getfield 25, 3) := by decide +kernel
theorem d_N_unlink_75 : decode b_N_unlink 75 = .ok (.iload_n 3, 1) := by decide +kernel
theorem d_N_unlink_76 : decode b_N_unlink 76 = .ok (.aload_n 0, 1) := by decide +kernel
theorem d_N_unlink_77 : decode b_N_unlink 77 = .ok (.iload_n 1, 1) := by decide +kernel
theorem d_N_unlink_78 : decode b_N_unlink 78 = .ok (.iconst 3, 1) := by decide +kernel
theorem d_N_unlink_79 : decode b_N_unlink 79 = .ok (.invokevirtual 46, 3) := by decide +kernel
theorem d_N_unlink_82 : decode b_N_unlink 82 = .ok (.iastore, 1) := by decide +kernel
theorem d_N_unlink_83 : decode b_N_unlink 83 = .ok (.return_, 1) := by decide +kernel
theorem d_N_unlink_84 : decode b_N_unlink 84 = .ok (.aload_n 0, 1) := by decide +kernel
theorem d_N_unlink_85 : decode b_N_unlink 85 = .ok (.getfield 25, 3) := by decide +kernel
theorem d_N_unlink_88 : decode b_N_unlink 88 = .ok (.iload_n 3, 1) := by decide +kernel
theorem d_N_unlink_89 : decode b_N_unlink 89 = .ok (.iaload, 1) := by decide +kernel
theorem d_N_unlink_90 : decode b_N_unlink 90 = .ok (.istore 4, 2) := by decide +kernel
theorem d_N_unlink_92 : decode b_N_unlink 92 = .ok (.iconst 0, 1) := by decide +kernel
theorem d_N_unlink_93 : decode b_N_unlink 93 = .ok (.istore 5, 2) := by decide +kernel
theorem d_N_unlink_95 : decode b_N_unlink 95 = .ok (.iload 5, 2) := by decide +kernel
theorem d_N_unlink_97 : decode b_N_unlink 97 = .ok (.sipush 24800, 3) := by decide +kernel
theorem d_N_unlink_100 : decode b_N_unlink 100 = .ok (.if_icmp .ge 48, 3) := by decide +kernel
theorem d_N_unlink_103 : decode b_N_unlink 103 = .ok (.iload 4, 2) := by decide +kernel
theorem d_N_unlink_105 : decode b_N_unlink 105 = .ok (.ifCond .eq 43, 3) := by decide +kernel
theorem d_N_unlink_108 : decode b_N_unlink 108 = .ok (.aload_n 0, 1) := by decide +kernel
theorem d_N_unlink_109 : decode b_N_unlink 109 = .ok (.iload 4, 2) := by decide +kernel
theorem d_N_unlink_111 : decode b_N_unlink 111 = .ok (.iconst 3, 1) := by decide +kernel
theorem d_N_unlink_112 : decode b_N_unlink 112 = .ok (.invokevirtual 46, 3) := by decide +kernel
theorem d_N_unlink_115 : decode b_N_unlink 115 = .ok (.iload_n 1, 1) := by decide +kernel
theorem d_N_unlink_116 : decode b_N_unlink 116 = .ok (.if_icmp .ne 17, 3) := by decide +kernel
theorem d_N_unlink_119 : decode b_N_unlink 119 = .ok (.aload_n 0, 1) := by decide +kernel
theorem d_N_unlink_120 : decode b_N_unlink 120 = .ok (.iload 4, 2) := by decide +kernel
theorem d_N_unlink_122 : decode b_N_unlink 122 = .ok (.iconst 3, 1) := by decide +kernel
theorem d_N_unlink_123 : decode b_N_unlink 123 = .ok (.aload_n 0, 1) := by decide +kernel
theorem d_N_unlink_124 : decode b_N_unlink 124 = .ok (.iload_n 1, 1) := by decide +kernel
theorem d_N_unlink_125 : decode b_N_unlink 125 = .ok (.iconst 3, 1) := by decide +kernel
theorem d_N_unlink_126 : decode b_N_unlink 126 = .ok (.invokevirtual 46, 3) := by decide +kernel
theorem d_N_unlink_129 : decode b_N_unlink 129 = .ok (.invokevirtual 65, 3) := by decide +kernel
theorem d_N_unlink_132 : decode b_N_unlink 132 = .ok (.return_, 1) := by decide +kernel
theorem d_N_unlink_133 : decode b_N_unlink 133 = .ok (.aload_n 0, 1) := by decide +kernel
theorem d_N_unlink_134 : decode b_N_unlink 134 = .ok (.iload 4, 2) := by decide +kernel
theorem d_N_unlink_136 : decode b_N_unlink 136 = .ok (.iconst 3, 1) := by decide +kernel
theorem d_N_unlink_137 : decode b_N_unlink 137 = .ok (.invokevirtual 46, 3) := by decide +kernel
theorem d_N_unlink_140 : decode b_N_unlink 140 = .ok (.istore 4, 2) := by decide +kernel
theorem d_N_unlink_142 : decode b_N_unlink 142 = .ok (.iinc 5 1, 3) := by decide +kernel
theorem d_N_unlink_145 : decode b_N_unlink 145 = .ok (.goto (-50), 3) := by decide +kernel
theorem d_N_unlink_148 : decode b_N_unlink 148 = .ok (.return_, 1) := by decide +kernel
theorem d_F_turnRound_0 : decode b_F_turnRound 0 = .ok (.bipush 11, 2) := by decide +kernel
theorem d_F_turnRound_2 : decode b_F_turnRound 2 = .ok (.istore_n 1, 1) := by decide +kernel
theorem d_F_turnRound_3 : decode b_F_turnRound 3 = .ok (.iload_n 1, 1) := by decide +kernel
theorem d_F_turnRound_4 : decode b_F_turnRound 4 = .ok (.ifCond .le 30, 3) := by decide +kernel
theorem d_F_turnRound_7 : decode b_F_turnRound 7 = .ok (.iconst 0, 1) := by decide +kernel
theorem d_F_turnRound_8 : decode b_F_turnRound 8 = .ok (.istore_n 2, 1) := by decide +kernel
theorem d_F_turnRound_9 : decode b_F_turnRound 9 = .ok (.iload_n 2, 1) := by decide +kernel
theorem d_F_turnRound_10 : decode b_F_turnRound 10 = .ok (.iload_n 1, 1) := by decide +kernel
theorem d_F_turnRound_11 : decode b_F_turnRound 11 = .ok (.if_icmp .ge 17, 3) := by decide +kernel
theorem d_F_turnRound_14 : decode b_F_turnRound 14 = .ok (.aload_n 0, 1) := by decide +kernel
theorem d_F_turnRound_15 : decode b_F_turnRound 15 = .ok (.getfield 9, 3) := by decide +kernel
theorem d_F_turnRound_18 : decode b_F_turnRound 18 = .ok (.iload_n 2, 1) := by decide +kernel
theorem d_F_turnRound_19 : decode b_F_turnRound 19 = .ok (.invokevirtual 38, 3) := by decide +kernel
theorem d_F_turnRound_22 : decode b_F_turnRound 22 = .ok (.iinc 2 1, 3) := by decide +kernel
theorem d_F_turnRound_25 : decode b_F_turnRound 25 = .ok (.goto (-16), 3) := by decide +kernel
theorem d_F_turnRound_28 : decode b_F_turnRound 28 = .ok (.iinc 1 (-1), 3) := by decide +kernel
theorem d_F_turnRound_31 : decode b_F_turnRound 31 = .ok (.goto (-28), 3) := by decide +kernel
theorem d_F_turnRound_34 : decode b_F_turnRound 34 = .ok (.return_, 1) := by decide +kernel
theorem d_S_slotsNotFalse_0 : decode b_S_slotsNotFalse 0 = .ok (.iconst 0, 1) := by decide +kernel
theorem d_S_slotsNotFalse_1 : decode b_S_slotsNotFalse 1 = .ok (.istore_n 1, 1) := by decide +kernel
theorem d_S_slotsNotFalse_2 : decode b_S_slotsNotFalse 2 = .ok (.aload_n 0, 1) := by decide +kernel
theorem d_S_slotsNotFalse_3 : decode b_S_slotsNotFalse 3 = .ok (.getfield 9, 3) := by decide +kernel
theorem d_S_slotsNotFalse_6 : decode b_S_slotsNotFalse 6 = .ok (.astore_n 2, 1) := by decide +kernel
theorem d_S_slotsNotFalse_7 : decode b_S_slotsNotFalse 7 = .ok (.aload_n 2, 1) := by decide +kernel
theorem d_S_slotsNotFalse_8 : decode b_S_slotsNotFalse 8 = .ok (.arraylength, 1) := by decide +kernel
theorem d_S_slotsNotFalse_9 : decode b_S_slotsNotFalse 9 = .ok (.istore_n 3, 1) := by decide +kernel
theorem d_S_slotsNotFalse_10 : decode b_S_slotsNotFalse 10 = .ok (.iconst 0, 1) := by decide +kernel
theorem d_S_slotsNotFalse_11 : decode b_S_slotsNotFalse 11 = .ok (.istore 4, 2) := by decide +kernel
theorem d_S_slotsNotFalse_13 : decode b_S_slotsNotFalse 13 = .ok (.iload 4, 2) := by decide +kernel
theorem d_S_slotsNotFalse_15 : decode b_S_slotsNotFalse 15 = .ok (.iload_n 3, 1) := by decide +kernel
theorem d_S_slotsNotFalse_16 : decode b_S_slotsNotFalse 16 = .ok (.if_icmp .ge 23, 3) := by decide +kernel
theorem d_S_slotsNotFalse_19 : decode b_S_slotsNotFalse 19 = .ok (.aload_n 2, 1) := by decide +kernel
theorem d_S_slotsNotFalse_20 : decode b_S_slotsNotFalse 20 = .ok (.iload 4, 2) := by decide +kernel
theorem d_S_slotsNotFalse_22 : decode b_S_slotsNotFalse 22 = .ok (.iaload, 1) := by decide +kernel
theorem d_S_slotsNotFalse_23 : decode b_S_slotsNotFalse 23 = .ok (.istore 5, 2) := by decide +kernel
theorem d_S_slotsNotFalse_25 : decode b_S_slotsNotFalse 25 = .ok (.iload 5, 2) := by decide +kernel
theorem d_S_slotsNotFalse_27 : decode b_S_slotsNotFalse 27 = .ok (.ifCond .eq 6, 3) := by decide +kernel
theorem d_S_slotsNotFalse_30 : decode b_S_slotsNotFalse 30 = .ok (.iinc 1 1, 3) := by decide +kernel
theorem d_S_slotsNotFalse_33 : decode b_S_slotsNotFalse 33 = .ok (.iinc 4 1, 3) := by decide +kernel
theorem d_S_slotsNotFalse_36 : decode b_S_slotsNotFalse 36 = .ok (.goto (-23), 3) := by decide +kernel
theorem d_S_slotsNotFalse_39 : decode b_S_slotsNotFalse 39 = .ok (.iload_n 1, 1) := by decide +kernel
theorem d_S_slotsNotFalse_40 : decode b_S_slotsNotFalse 40 = .ok (.ireturn, 1) := by decide +kernel
theorem d_R_init_0 : decode b_R_init 0 = .ok (.aload_n 0, 1) := by decide +kernel
theorem d_R_init_1 : decode b_R_init 1 = .ok (.invokespecial 1, 3) := by decide +kernel
theorem d_R_init_4 : decode b_R_init 4 = .ok (.aload_n 0, 1) := by decide +kernel
theorem d_R_init_5 : decode b_R_init 5 = .ok (.ldc 7, 2) := by decide +kernel
theorem d_R_init_7 : decode b_R_init 7 = .ok (.newarray .boolean, 2) := by decide +kernel
theorem d_R_init_9 : decode b_R_init 9 = .ok (.putfield 8, 3) := by decide +kernel
theorem d_R_init_12 : decode b_R_init 12 = .ok (.aload_n 0, 1) := by decide +kernel
theorem d_R_init_13 : decode b_R_init 13 = .ok (.sipush 4096, 3) := by decide +kernel
theorem d_R_init_16 : decode b_R_init 16 = .ok (.newarray .boolean, 2) := by decide +kernel
theorem d_R_init_18 : decode b_R_init 18 = .ok (.putfield 14, 3) := by decide +kernel
theorem d_R_init_21 : decode b_R_init 21 = .ok (.aload_n 0, 1) := by decide +kernel
theorem d_R_init_22 : decode b_R_init 22 = .ok (.sipush 4096, 3) := by decide +kernel
theorem d_R_init_25 : decode b_R_init 25 = .ok (.newarray .boolean, 2) := by decide +kernel
theorem d_R_init_27 : decode b_R_init 27 = .ok (.putfield 17, 3) := by decide +kernel
theorem d_R_init_30 : decode b_R_init 30 = .ok (.return_, 1) := by decide +kernel
theorem d_R_thrown_0 : decode b_R_thrown 0 = .ok (.aload_n 0, 1) := by decide +kernel
theorem d_R_thrown_1 : decode b_R_thrown 1 = .ok (.getfield 20, 3) := by decide +kernel
theorem d_R_thrown_4 : decode b_R_thrown 4 = .ok (.ireturn, 1) := by decide +kernel
theorem d_R_constant_0 : decode b_R_constant 0 = .ok (.aload_n 0, 1) := by decide +kernel
theorem d_R_constant_1 : decode b_R_constant 1 = .ok (.iconst 0, 1) := by decide +kernel
theorem d_R_constant_2 : decode b_R_constant 2 = .ok (.putfield 20, 3) := by decide +kernel
theorem d_R_constant_5 : decode b_R_constant 5 = .ok (.aload_n 0, 1) := by decide +kernel
theorem d_R_constant_6 : decode b_R_constant 6 = .ok (.iload_n 1, 1) := by decide +kernel
theorem d_R_constant_7 : decode b_R_constant 7 = .ok (.bipush 32, 2) := by decide +kernel
theorem d_R_constant_9 : decode b_R_constant 9 = .ok (.invokevirtual 24, 3) := by decide +kernel
theorem d_R_constant_12 : decode b_R_constant 12 = .ok (.ifCond .eq 11, 3) := by decide +kernel
theorem d_R_constant_15 : decode b_R_constant 15 = .ok (.aload_n 0, 1) := by decide +kernel
theorem d_R_constant_16 : decode b_R_constant 16 = .ok (.iconst 1, 1) := by decide +kernel
theorem d_R_constant_17 : decode b_R_constant 17 = .ok (.putfield 20, 3) := by decide +kernel
theorem d_R_constant_20 : decode b_R_constant 20 = .ok (.goto 31, 3) := by decide +kernel
theorem d_R_constant_23 : decode b_R_constant 23 = .ok (.iconst 0, 1) := by decide +kernel
theorem d_R_constant_24 : decode b_R_constant 24 = .ok (.istore_n 3, 1) := by decide +kernel
theorem d_R_constant_25 : decode b_R_constant 25 = .ok (.iload_n 3, 1) := by decide +kernel
theorem d_R_constant_26 : decode b_R_constant 26 = .ok (.sipush 4096, 3) := by decide +kernel
theorem d_R_constant_29 : decode b_R_constant 29 = .ok (.if_icmp .ge 22, 3) := by decide +kernel
theorem d_R_constant_32 : decode b_R_constant 32 = .ok (.aload_n 0, 1) := by decide +kernel
theorem d_R_constant_33 : decode b_R_constant 33 = .ok (.getfield 8, 3) := by decide +kernel
theorem d_R_constant_36 : decode b_R_constant 36 = .ok (.sipush 4096, 3) := by decide +kernel
theorem d_R_constant_39 : decode b_R_constant 39 = .ok (.iload_n 1, 1) := by decide +kernel
theorem d_R_constant_40 : decode b_R_constant 40 = .ok (.imul, 1) := by decide +kernel
theorem d_R_constant_41 : decode b_R_constant 41 = .ok (.iload_n 3, 1) := by decide +kernel
theorem d_R_constant_42 : decode b_R_constant 42 = .ok (.iadd, 1) := by decide +kernel
theorem d_R_constant_43 : decode b_R_constant 43 = .ok (.iload_n 2, 1) := by decide +kernel
theorem d_R_constant_44 : decode b_R_constant 44 = .ok (.bastore, 1) := by decide +kernel
theorem d_R_constant_45 : decode b_R_constant 45 = .ok (.iinc 3 1, 3) := by decide +kernel
theorem d_R_constant_48 : decode b_R_constant 48 = .ok (.goto (-23), 3) := by decide +kernel
theorem d_R_constant_51 : decode b_R_constant 51 = .ok (.return_, 1) := by decide +kernel
theorem d_R_out_0 : decode b_R_out 0 = .ok (.iload_n 1, 1) := by decide +kernel
theorem d_R_out_1 : decode b_R_out 1 = .ok (.ifCond .lt 8, 3) := by decide +kernel
theorem d_R_out_4 : decode b_R_out 4 = .ok (.iload_n 1, 1) := by decide +kernel
theorem d_R_out_5 : decode b_R_out 5 = .ok (.iload_n 2, 1) := by decide +kernel
theorem d_R_out_6 : decode b_R_out 6 = .ok (.if_icmp .lt 7, 3) := by decide +kernel
theorem d_R_out_9 : decode b_R_out 9 = .ok (.iconst 1, 1) := by decide +kernel
theorem d_R_out_10 : decode b_R_out 10 = .ok (.goto 4, 3) := by decide +kernel
theorem d_R_out_13 : decode b_R_out 13 = .ok (.iconst 0, 1) := by decide +kernel
theorem d_R_out_14 : decode b_R_out 14 = .ok (.ireturn, 1) := by decide +kernel
theorem d_R_variable_0 : decode b_R_variable 0 = .ok (.aload_n 0, 1) := by decide +kernel
theorem d_R_variable_1 : decode b_R_variable 1 = .ok (.iconst 0, 1) := by decide +kernel
theorem d_R_variable_2 : decode b_R_variable 2 = .ok (.putfield 20, 3) := by decide +kernel
theorem d_R_variable_5 : decode b_R_variable 5 = .ok (.aload_n 0, 1) := by decide +kernel
theorem d_R_variable_6 : decode b_R_variable 6 = .ok (.iload_n 1, 1) := by decide +kernel
theorem d_R_variable_7 : decode b_R_variable 7 = .ok (.bipush 32, 2) := by decide +kernel
theorem d_R_variable_9 : decode b_R_variable 9 = .ok (.invokevirtual 24, 3) := by decide +kernel
theorem d_R_variable_12 : decode b_R_variable 12 = .ok (.ifCond .ne 13, 3) := by decide +kernel
theorem d_R_variable_15 : decode b_R_variable 15 = .ok (.aload_n 0, 1) := by decide +kernel
theorem d_R_variable_16 : decode b_R_variable 16 = .ok (.iload_n 2, 1) := by decide +kernel
theorem d_R_variable_17 : decode b_R_variable 17 = .ok (.bipush 12, 2) := by decide +kernel
theorem d_R_variable_19 : decode b_R_variable 19 = .ok (.invokevirtual 24, 3) := by decide +kernel
theorem d_R_variable_22 : decode b_R_variable 22 = .ok (.ifCond .eq 11, 3) := by decide +kernel
theorem d_R_variable_25 : decode b_R_variable 25 = .ok (.aload_n 0, 1) := by decide +kernel
theorem d_R_variable_26 : decode b_R_variable 26 = .ok (.iconst 1, 1) := by decide +kernel
theorem d_R_variable_27 : decode b_R_variable 27 = .ok (.putfield 20, 3) := by decide +kernel
theorem d_R_variable_30 : decode b_R_variable 30 = .ok (.goto 44, 3) := by decide +kernel
theorem d_R_variable_33 : decode b_R_variable 33 = .ok (.iconst 0, 1) := by decide +kernel
theorem d_R_variable_34 : decode b_R_variable 34 = .ok (.istore_n 3, 1) := by decide +kernel
theorem d_R_variable_35 : decode b_R_variable 35 = .ok (.iload_n 3, 1) := by decide +kernel
theorem d_R_variable_36 : decode b_R_variable 36 = .ok (.sipush 4096, 3) := by decide +kernel
theorem d_R_variable_39 : decode b_R_variable 39 = .ok (.if_icmp .ge 35, 3) := by decide +kernel
theorem d_R_variable_42 : decode b_R_variable 42 = .ok (.aload_n 0, 1) := by decide +kernel
theorem d_R_variable_43 : decode b_R_variable 43 = .ok (.getfield 8, 3) := by decide +kernel
theorem d_R_variable_46 : decode b_R_variable 46 = .ok (.sipush 4096, 3) := by decide +kernel
theorem d_R_variable_49 : decode b_R_variable 49 = .ok (.iload_n 1, 1) := by decide +kernel
theorem d_R_variable_50 : decode b_R_variable 50 = .ok (.imul, 1) := by decide +kernel
theorem d_R_variable_51 : decode b_R_variable 51 = .ok (.iload_n 3, 1) := by decide +kernel
theorem d_R_variable_52 : decode b_R_variable 52 = .ok (.iadd, 1) := by decide +kernel
theorem d_R_variable_53 : decode b_R_variable 53 = .ok (.iload_n 3, 1) := by decide +kernel
theorem d_R_variable_54 : decode b_R_variable 54 = .ok (.iload_n 2, 1) := by decide +kernel
theorem d_R_variable_55 : decode b_R_variable 55 = .ok (.ishr, 1) := by decide +kernel
theorem d_R_variable_56 : decode b_R_variable 56 = .ok (.iconst 1, 1) := by decide +kernel
theorem d_R_variable_57 : decode b_R_variable 57 = .ok (.iand, 1) := by decide +kernel
theorem d_R_variable_58 : decode b_R_variable 58 = .ok (.iconst 1, 1) := by decide +kernel
theorem d_R_variable_59 : decode b_R_variable 59 = .ok (.if_icmp .ne 7, 3) := by decide +kernel
theorem d_R_variable_62 : decode b_R_variable 62 = .ok (.iconst 1, 1) := by decide +kernel
theorem d_R_variable_63 : decode b_R_variable 63 = .ok (.goto 4, 3) := by decide +kernel
theorem d_R_variable_66 : decode b_R_variable 66 = .ok (.iconst 0, 1) := by decide +kernel
theorem d_R_variable_67 : decode b_R_variable 67 = .ok (.bastore, 1) := by decide +kernel
theorem d_R_variable_68 : decode b_R_variable 68 = .ok (.iinc 3 1, 3) := by decide +kernel
theorem d_R_variable_71 : decode b_R_variable 71 = .ok (.goto (-36), 3) := by decide +kernel
theorem d_R_variable_74 : decode b_R_variable 74 = .ok (.return_, 1) := by decide +kernel
theorem d_R_choose_0 : decode b_R_choose 0 = .ok (.aload_n 0, 1) := by decide +kernel
theorem d_R_choose_1 : decode b_R_choose 1 = .ok (.iconst 0, 1) := by decide +kernel
theorem d_R_choose_2 : decode b_R_choose 2 = .ok (.putfield 20, 3) := by decide +kernel
theorem d_R_choose_5 : decode b_R_choose 5 = .ok (.aload_n 0, 1) := by decide +kernel
theorem d_R_choose_6 : decode b_R_choose 6 = .ok (.iload_n 1, 1) := by decide +kernel
theorem d_R_choose_7 : decode b_R_choose 7 = .ok (.bipush 32, 2) := by decide +kernel
theorem d_R_choose_9 : decode b_R_choose 9 = .ok (.invokevirtual 24, 3) := by decide +kernel
theorem d_R_choose_12 : decode b_R_choose 12 = .ok (.ifCond .ne 34, 3) := by decide +kernel
theorem d_R_choose_15 : decode b_R_choose 15 = .ok (.aload_n 0, 1) := by decide +kernel
theorem d_R_choose_16 : decode b_R_choose 16 = .ok (.iload_n 2, 1) := by decide +kernel
theorem d_R_choose_17 : decode b_R_choose 17 = .ok (.bipush 32, 2) := by decide +kernel
theorem d_R_choose_19 : decode b_R_choose 19 = .ok (.invokevirtual 24, 3) := by decide +kernel
theorem d_R_choose_22 : decode b_R_choose 22 = .ok (.ifCond .ne 24, 3) := by decide +kernel
theorem d_R_choose_25 : decode b_R_choose 25 = .ok (.aload_n 0, 1) := by decide +kernel
theorem d_R_choose_26 : decode b_R_choose 26 = .ok (.iload_n 3, 1) := by decide +kernel
theorem d_R_choose_27 : decode b_R_choose 27 = .ok (.bipush 32, 2) := by decide +kernel
theorem d_R_choose_29 : decode b_R_choose 29 = .ok (.invokevirtual 24, 3) := by decide +kernel
theorem d_R_choose_32 : decode b_R_choose 32 = .ok (.ifCond .ne 14, 3) := by decide +kernel
theorem d_R_choose_35 : decode b_R_choose 35 = .ok (.aload_n 0, 1) := by decide +kernel
theorem d_R_choose_36 : decode b_R_choose 36 = .ok (.iload 4, 2) := by decide +kernel
theorem d_R_choose_38 : decode b_R_choose 38 = .ok (.bipush 32, 2) := by decide +kernel
theorem d_R_choose_40 : decode b_R_choose 40 = .ok (.invokevirtual 24, 3) := by decide +kernel
theorem d_R_choose_43 : decode b_R_choose 43 = .ok (.ifCond .eq 9, 3) := by decide +kernel
theorem d_R_choose_46 : decode b_R_choose 46 = .ok (.aload_n 0, 1) := by decide +kernel
theorem d_R_choose_47 : decode b_R_choose 47 = .ok (.iconst 1, 1) := by decide +kernel
theorem d_R_choose_48 : decode b_R_choose 48 = .ok (.invokevirtual 28, 3) := by decide +kernel
theorem d_R_choose_51 : decode b_R_choose 51 = .ok (.ireturn, 1) := by decide +kernel
theorem d_R_choose_52 : decode b_R_choose 52 = .ok (.iconst 0, 1) := by decide +kernel
theorem d_R_choose_53 : decode b_R_choose 53 = .ok (.istore 5, 2) := by decide +kernel
theorem d_R_choose_55 : decode b_R_choose 55 = .ok (.iload 5, 2) := by decide +kernel
theorem d_R_choose_57 : decode b_R_choose 57 = .ok (.sipush 4096, 3) := by decide +kernel
theorem d_R_choose_60 : decode b_R_choose 60 = .ok (.if_icmp .ge 44, 3) := by decide +kernel
theorem d_R_choose_63 : decode b_R_choose 63 = .ok (.aload_n 0, 1) := by decide +kernel
theorem d_R_choose_64 : decode b_R_choose 64 = .ok (.getfield 14, 3) := by decide +kernel
theorem d_R_choose_67 : decode b_R_choose 67 = .ok (.iload 5, 2) := by decide +kernel
theorem d_R_choose_69 : decode b_R_choose 69 = .ok (.aload_n 0, 1) := by decide +kernel
theorem d_R_choose_70 : decode b_R_choose 70 = .ok (.iload_n 2, 1) := by decide +kernel
theorem d_R_choose_71 : decode b_R_choose 71 = .ok (.iload 5, 2) := by decide +kernel
theorem d_R_choose_73 : decode b_R_choose 73 = .ok (.invokevirtual 32, 3) := by decide +kernel
theorem d_R_choose_76 : decode b_R_choose 76 = .ok (.ifCond .eq 13, 3) := by decide +kernel
theorem d_R_choose_79 : decode b_R_choose 79 = .ok (.aload_n 0, 1) := by decide +kernel
theorem d_R_choose_80 : decode b_R_choose 80 = .ok (.iload_n 3, 1) := by decide +kernel
theorem d_R_choose_81 : decode b_R_choose 81 = .ok (.iload 5, 2) := by decide +kernel
theorem d_R_choose_83 : decode b_R_choose 83 = .ok (.invokevirtual 32, 3) := by decide +kernel
theorem d_R_choose_86 : decode b_R_choose 86 = .ok (.goto 11, 3) := by decide +kernel
theorem d_R_choose_89 : decode b_R_choose 89 = .ok (.aload_n 0, 1) := by decide +kernel
theorem d_R_choose_90 : decode b_R_choose 90 = .ok (.iload 4, 2) := by decide +kernel
theorem d_R_choose_92 : decode b_R_choose 92 = .ok (.iload 5, 2) := by decide +kernel
theorem d_R_choose_94 : decode b_R_choose 94 = .ok (.invokevirtual 32, 3) := by decide +kernel
theorem d_R_choose_97 : decode b_R_choose 97 = .ok (.bastore, 1) := by decide +kernel
theorem d_R_choose_98 : decode b_R_choose 98 = .ok (.iinc 5 1, 3) := by decide +kernel
theorem d_R_choose_101 : decode b_R_choose 101 = .ok (.goto (-46), 3) := by decide +kernel
theorem d_R_choose_104 : decode b_R_choose 104 = .ok (.aload_n 0, 1) := by decide +kernel
theorem d_R_choose_105 : decode b_R_choose 105 = .ok (.iload_n 1, 1) := by decide +kernel
theorem d_R_choose_106 : decode b_R_choose 106 = .ok (.invokevirtual 35, 3) := by decide +kernel
theorem d_R_choose_109 : decode b_R_choose 109 = .ok (.ireturn, 1) := by decide +kernel
theorem d_R_fail_0 : decode b_R_fail 0 = .ok (.aload_n 0, 1) := by decide +kernel
theorem d_R_fail_1 : decode b_R_fail 1 = .ok (.iload_n 1, 1) := by decide +kernel
theorem d_R_fail_2 : decode b_R_fail 2 = .ok (.putfield 20, 3) := by decide +kernel
theorem d_R_fail_5 : decode b_R_fail 5 = .ok (.iconst 0, 1) := by decide +kernel
theorem d_R_fail_6 : decode b_R_fail 6 = .ok (.ireturn, 1) := by decide +kernel
theorem d_R_at_0 : decode b_R_at 0 = .ok (.aload_n 0, 1) := by decide +kernel
theorem d_R_at_1 : decode b_R_at 1 = .ok (.getfield 8, 3) := by decide +kernel
theorem d_R_at_4 : decode b_R_at 4 = .ok (.sipush 4096, 3) := by decide +kernel
theorem d_R_at_7 : decode b_R_at 7 = .ok (.iload_n 1, 1) := by decide +kernel
theorem d_R_at_8 : decode b_R_at 8 = .ok (.imul, 1) := by decide +kernel
theorem d_R_at_9 : decode b_R_at 9 = .ok (.iload_n 2, 1) := by decide +kernel
theorem d_R_at_10 : decode b_R_at 10 = .ok (.iadd, 1) := by decide +kernel
theorem d_R_at_11 : decode b_R_at 11 = .ok (.baload, 1) := by decide +kernel
theorem d_R_at_12 : decode b_R_at 12 = .ok (.ireturn, 1) := by decide +kernel
theorem d_R_keep_0 : decode b_R_keep 0 = .ok (.iconst 0, 1) := by decide +kernel
theorem d_R_keep_1 : decode b_R_keep 1 = .ok (.istore_n 2, 1) := by decide +kernel
theorem d_R_keep_2 : decode b_R_keep 2 = .ok (.iconst 0, 1) := by decide +kernel
theorem d_R_keep_3 : decode b_R_keep 3 = .ok (.istore_n 3, 1) := by decide +kernel
theorem d_R_keep_4 : decode b_R_keep 4 = .ok (.iload_n 3, 1) := by decide +kernel
theorem d_R_keep_5 : decode b_R_keep 5 = .ok (.sipush 4096, 3) := by decide +kernel
theorem d_R_keep_8 : decode b_R_keep 8 = .ok (.if_icmp .ge 50, 3) := by decide +kernel
theorem d_R_keep_11 : decode b_R_keep 11 = .ok (.aload_n 0, 1) := by decide +kernel
theorem d_R_keep_12 : decode b_R_keep 12 = .ok (.getfield 8, 3) := by decide +kernel
theorem d_R_keep_15 : decode b_R_keep 15 = .ok (.sipush 4096, 3) := by decide +kernel
theorem d_R_keep_18 : decode b_R_keep 18 = .ok (.iload_n 1, 1) := by decide +kernel
theorem d_R_keep_19 : decode b_R_keep 19 = .ok (.imul, 1) := by decide +kernel
theorem d_R_keep_20 : decode b_R_keep 20 = .ok (.iload_n 3, 1) := by decide +kernel
theorem d_R_keep_21 : decode b_R_keep 21 = .ok (.iadd, 1) := by decide +kernel
theorem d_R_keep_22 : decode b_R_keep 22 = .ok (.baload, 1) := by decide +kernel
theorem d_R_keep_23 : decode b_R_keep 23 = .ok (.aload_n 0, 1) := by decide +kernel
theorem d_R_keep_24 : decode b_R_keep 24 = .ok (.getfield 14, 3) := by decide +kernel
theorem d_R_keep_27 : decode b_R_keep 27 = .ok (.iload_n 3, 1) := by decide +kernel
theorem d_R_keep_28 : decode b_R_keep 28 = .ok (.baload, 1) := by decide +kernel
theorem d_R_keep_29 : decode b_R_keep 29 = .ok (.if_icmp .eq 5, 3) := by decide +kernel
theorem d_R_keep_32 : decode b_R_keep 32 = .ok (.iconst 1, 1) := by decide +kernel
theorem d_R_keep_33 : decode b_R_keep 33 = .ok (.istore_n 2, 1) := by decide +kernel
theorem d_R_keep_34 : decode b_R_keep 34 = .ok (.aload_n 0, 1) := by decide +kernel
theorem d_R_keep_35 : decode b_R_keep 35 = .ok (.getfield 8, 3) := by decide +kernel
theorem d_R_keep_38 : decode b_R_keep 38 = .ok (.sipush 4096, 3) := by decide +kernel
theorem d_R_keep_41 : decode b_R_keep 41 = .ok (.iload_n 1, 1) := by decide +kernel
theorem d_R_keep_42 : decode b_R_keep 42 = .ok (.imul, 1) := by decide +kernel
theorem d_R_keep_43 : decode b_R_keep 43 = .ok (.iload_n 3, 1) := by decide +kernel
theorem d_R_keep_44 : decode b_R_keep 44 = .ok (.iadd, 1) := by decide +kernel
theorem d_R_keep_45 : decode b_R_keep 45 = .ok (.aload_n 0, 1) := by decide +kernel
theorem d_R_keep_46 : decode b_R_keep 46 = .ok (.getfield 14, 3) := by decide +kernel
theorem d_R_keep_49 : decode b_R_keep 49 = .ok (.iload_n 3, 1) := by decide +kernel
theorem d_R_keep_50 : decode b_R_keep 50 = .ok (.baload, 1) := by decide +kernel
theorem d_R_keep_51 : decode b_R_keep 51 = .ok (.bastore, 1) := by decide +kernel
theorem d_R_keep_52 : decode b_R_keep 52 = .ok (.iinc 3 1, 3) := by decide +kernel
theorem d_R_keep_55 : decode b_R_keep 55 = .ok (.goto (-51), 3) := by decide +kernel
theorem d_R_keep_58 : decode b_R_keep 58 = .ok (.iload_n 2, 1) := by decide +kernel
theorem d_R_keep_59 : decode b_R_keep 59 = .ok (.ireturn, 1) := by decide +kernel
theorem d_R_join_0 : decode b_R_join 0 = .ok (.aload_n 0, 1) := by decide +kernel
theorem d_R_join_1 : decode b_R_join 1 = .ok (.iconst 0, 1) := by decide +kernel
theorem d_R_join_2 : decode b_R_join 2 = .ok (.putfield 20, 3) := by decide +kernel
theorem d_R_join_5 : decode b_R_join 5 = .ok (.aload_n 0, 1) := by decide +kernel
theorem d_R_join_6 : decode b_R_join 6 = .ok (.iload_n 1, 1) := by decide +kernel
theorem d_R_join_7 : decode b_R_join 7 = .ok (.bipush 32, 2) := by decide +kernel
theorem d_R_join_9 : decode b_R_join 9 = .ok (.invokevirtual 24, 3) := by decide +kernel
theorem d_R_join_12 : decode b_R_join 12 = .ok (.ifCond .ne 33, 3) := by decide +kernel
theorem d_R_join_15 : decode b_R_join 15 = .ok (.aload_n 0, 1) := by decide +kernel
theorem d_R_join_16 : decode b_R_join 16 = .ok (.iload_n 2, 1) := by decide +kernel
theorem d_R_join_17 : decode b_R_join 17 = .ok (.iconst 5, 1) := by decide +kernel
theorem d_R_join_18 : decode b_R_join 18 = .ok (.invokevirtual 24, 3) := by decide +kernel
theorem d_R_join_21 : decode b_R_join 21 = .ok (.ifCond .ne 24, 3) := by decide +kernel
theorem d_R_join_24 : decode b_R_join 24 = .ok (.aload_n 0, 1) := by decide +kernel
theorem d_R_join_25 : decode b_R_join 25 = .ok (.iload_n 3, 1) := by decide +kernel
theorem d_R_join_26 : decode b_R_join 26 = .ok (.bipush 32, 2) := by decide +kernel
theorem d_R_join_28 : decode b_R_join 28 = .ok (.invokevirtual 24, 3) := by decide +kernel
theorem d_R_join_31 : decode b_R_join 31 = .ok (.ifCond .ne 14, 3) := by decide +kernel
theorem d_R_join_34 : decode b_R_join 34 = .ok (.aload_n 0, 1) := by decide +kernel
theorem d_R_join_35 : decode b_R_join 35 = .ok (.iload 4, 2) := by decide +kernel
theorem d_R_join_37 : decode b_R_join 37 = .ok (.bipush 32, 2) := by decide +kernel
theorem d_R_join_39 : decode b_R_join 39 = .ok (.invokevirtual 24, 3) := by decide +kernel
theorem d_R_join_42 : decode b_R_join 42 = .ok (.ifCond .eq 9, 3) := by decide +kernel
theorem d_R_join_45 : decode b_R_join 45 = .ok (.aload_n 0, 1) := by decide +kernel
theorem d_R_join_46 : decode b_R_join 46 = .ok (.iconst 1, 1) := by decide +kernel
theorem d_R_join_47 : decode b_R_join 47 = .ok (.invokevirtual 28, 3) := by decide +kernel
theorem d_R_join_50 : decode b_R_join 50 = .ok (.ireturn, 1) := by decide +kernel
theorem d_R_join_51 : decode b_R_join 51 = .ok (.iconst 0, 1) := by decide +kernel
theorem d_R_join_52 : decode b_R_join 52 = .ok (.istore 5, 2) := by decide +kernel
theorem d_R_join_54 : decode b_R_join 54 = .ok (.iload 5, 2) := by decide +kernel
theorem d_R_join_56 : decode b_R_join 56 = .ok (.sipush 4096, 3) := by decide +kernel
theorem d_R_join_59 : decode b_R_join 59 = .ok (.if_icmp .ge 133, 3) := by decide +kernel
theorem d_R_join_62 : decode b_R_join 62 = .ok (.aload_n 0, 1) := by decide +kernel
theorem d_R_join_63 : decode b_R_join 63 = .ok (.iload_n 3, 1) := by decide +kernel
theorem d_R_join_64 : decode b_R_join 64 = .ok (.iload 5, 2) := by decide +kernel
theorem d_R_join_66 : decode b_R_join 66 = .ok (.invokevirtual 32, 3) := by decide +kernel
theorem d_R_join_69 : decode b_R_join 69 = .ok (.istore 6, 2) := by decide +kernel
theorem d_R_join_71 : decode b_R_join 71 = .ok (.aload_n 0, 1) := by decide +kernel
theorem d_R_join_72 : decode b_R_join 72 = .ok (.iload 4, 2) := by decide +kernel
theorem d_R_join_74 : decode b_R_join 74 = .ok (.iload 5, 2) := by decide +kernel
theorem d_R_join_76 : decode b_R_join 76 = .ok (.invokevirtual 32, 3) := by decide +kernel
theorem d_R_join_79 : decode b_R_join 79 = .ok (.istore 7, 2) := by decide +kernel
theorem d_R_join_81 : decode b_R_join 81 = .ok (.aload_n 0, 1) := by decide +kernel
theorem d_R_join_82 : decode b_R_join 82 = .ok (.getfield 14, 3) := by decide +kernel
theorem d_R_join_85 : decode b_R_join 85 = .ok (.iload 5, 2) := by decide +kernel
theorem d_R_join_87 : decode b_R_join 87 = .ok (.iload_n 2, 1) := by decide +kernel
theorem d_R_join_88 : decode b_R_join 88 = .ok (.ifCond .ne 21, 3) := by decide +kernel
theorem d_R_join_91 : decode b_R_join 91 = .ok (.iload 6, 2) := by decide +kernel
theorem d_R_join_93 : decode b_R_join 93 = .ok (.ifCond .eq 12, 3) := by decide +kernel
theorem d_R_join_96 : decode b_R_join 96 = .ok (.iload 7, 2) := by decide +kernel
theorem d_R_join_98 : decode b_R_join 98 = .ok (.ifCond .eq 7, 3) := by decide +kernel
theorem d_R_join_101 : decode b_R_join 101 = .ok (.iconst 1, 1) := by decide +kernel
theorem d_R_join_102 : decode b_R_join 102 = .ok (.goto 83, 3) := by decide +kernel
theorem d_R_join_105 : decode b_R_join 105 = .ok (.iconst 0, 1) := by decide +kernel
theorem d_R_join_106 : decode b_R_join 106 = .ok (.goto 79, 3) := by decide +kernel
theorem d_R_join_109 : decode b_R_join 109 = .ok (.iload_n 2, 1) := by decide +kernel
theorem d_R_join_110 : decode b_R_join 110 = .ok (.iconst 1, 1) := by decide +kernel
theorem d_R_join_111 : decode b_R_join 111 = .ok (.if_icmp .ne 21, 3) := by decide +kernel
theorem d_R_join_114 : decode b_R_join 114 = .ok (.iload 6, 2) := by decide +kernel
theorem d_R_join_116 : decode b_R_join 116 = .ok (.ifCond .ne 8, 3) := by decide +kernel
theorem d_R_join_119 : decode b_R_join 119 = .ok (.iload 7, 2) := by decide +kernel
theorem d_R_join_121 : decode b_R_join 121 = .ok (.ifCond .eq 7, 3) := by decide +kernel
theorem d_R_join_124 : decode b_R_join 124 = .ok (.iconst 1, 1) := by decide +kernel
theorem d_R_join_125 : decode b_R_join 125 = .ok (.goto 60, 3) := by decide +kernel
theorem d_R_join_128 : decode b_R_join 128 = .ok (.iconst 0, 1) := by decide +kernel
theorem d_R_join_129 : decode b_R_join 129 = .ok (.goto 56, 3) := by decide +kernel
theorem d_R_join_132 : decode b_R_join 132 = .ok (.iload_n 2, 1) := by decide +kernel
theorem d_R_join_133 : decode b_R_join 133 = .ok (.iconst 2, 1) := by decide +kernel
theorem d_R_join_134 : decode b_R_join 134 = .ok (.if_icmp .ne 18, 3) := by decide +kernel
theorem d_R_join_137 : decode b_R_join 137 = .ok (.iload 6, 2) := by decide +kernel
theorem d_R_join_139 : decode b_R_join 139 = .ok (.iload 7, 2) := by decide +kernel
theorem d_R_join_141 : decode b_R_join 141 = .ok (.if_icmp .eq 7, 3) := by decide +kernel
theorem d_R_join_144 : decode b_R_join 144 = .ok (.iconst 1, 1) := by decide +kernel
theorem d_R_join_145 : decode b_R_join 145 = .ok (.goto 40, 3) := by decide +kernel
theorem d_R_join_148 : decode b_R_join 148 = .ok (.iconst 0, 1) := by decide +kernel
theorem d_R_join_149 : decode b_R_join 149 = .ok (.goto 36, 3) := by decide +kernel
theorem d_R_join_152 : decode b_R_join 152 = .ok (.iload_n 2, 1) := by decide +kernel
theorem d_R_join_153 : decode b_R_join 153 = .ok (.iconst 3, 1) := by decide +kernel
theorem d_R_join_154 : decode b_R_join 154 = .ok (.if_icmp .ne 21, 3) := by decide +kernel
theorem d_R_join_157 : decode b_R_join 157 = .ok (.iload 6, 2) := by decide +kernel
theorem d_R_join_159 : decode b_R_join 159 = .ok (.ifCond .eq 12, 3) := by decide +kernel
theorem d_R_join_162 : decode b_R_join 162 = .ok (.iload 7, 2) := by decide +kernel
theorem d_R_join_164 : decode b_R_join 164 = .ok (.ifCond .ne 7, 3) := by decide +kernel
theorem d_R_join_167 : decode b_R_join 167 = .ok (.iconst 1, 1) := by decide +kernel
theorem d_R_join_168 : decode b_R_join 168 = .ok (.goto 17, 3) := by decide +kernel
theorem d_R_join_171 : decode b_R_join 171 = .ok (.iconst 0, 1) := by decide +kernel
theorem d_R_join_172 : decode b_R_join 172 = .ok (.goto 13, 3) := by decide +kernel
theorem d_R_join_175 : decode b_R_join 175 = .ok (.iload 6, 2) := by decide +kernel
theorem d_R_join_177 : decode b_R_join 177 = .ok (.ifCond .ne 7, 3) := by decide +kernel
theorem d_R_join_180 : decode b_R_join 180 = .ok (.iconst 1, 1) := by decide +kernel
theorem d_R_join_181 : decode b_R_join 181 = .ok (.goto 4, 3) := by decide +kernel
theorem d_R_join_184 : decode b_R_join 184 = .ok (.iconst 0, 1) := by decide +kernel
theorem d_R_join_185 : decode b_R_join 185 = .ok (.bastore, 1) := by decide +kernel
theorem d_R_join_186 : decode b_R_join 186 = .ok (.iinc 5 1, 3) := by decide +kernel
theorem d_R_join_189 : decode b_R_join 189 = .ok (.goto (-135), 3) := by decide +kernel
theorem d_R_join_192 : decode b_R_join 192 = .ok (.aload_n 0, 1) := by decide +kernel
theorem d_R_join_193 : decode b_R_join 193 = .ok (.iload_n 1, 1) := by decide +kernel
theorem d_R_join_194 : decode b_R_join 194 = .ok (.invokevirtual 35, 3) := by decide +kernel
theorem d_R_join_197 : decode b_R_join 197 = .ok (.ireturn, 1) := by decide +kernel
theorem d_R_some_0 : decode b_R_some 0 = .ok (.aload_n 0, 1) := by decide +kernel
theorem d_R_some_1 : decode b_R_some 1 = .ok (.iconst 0, 1) := by decide +kernel
theorem d_R_some_2 : decode b_R_some 2 = .ok (.putfield 20, 3) := by decide +kernel
theorem d_R_some_5 : decode b_R_some 5 = .ok (.aload_n 0, 1) := by decide +kernel
theorem d_R_some_6 : decode b_R_some 6 = .ok (.iload_n 1, 1) := by decide +kernel
theorem d_R_some_7 : decode b_R_some 7 = .ok (.bipush 32, 2) := by decide +kernel
theorem d_R_some_9 : decode b_R_some 9 = .ok (.invokevirtual 24, 3) := by decide +kernel
theorem d_R_some_12 : decode b_R_some 12 = .ok (.ifCond .ne 35, 3) := by decide +kernel
theorem d_R_some_15 : decode b_R_some 15 = .ok (.aload_n 0, 1) := by decide +kernel
theorem d_R_some_16 : decode b_R_some 16 = .ok (.iload_n 2, 1) := by decide +kernel
theorem d_R_some_17 : decode b_R_some 17 = .ok (.bipush 32, 2) := by decide +kernel
theorem d_R_some_19 : decode b_R_some 19 = .ok (.invokevirtual 24, 3) := by decide +kernel
theorem d_R_some_22 : decode b_R_some 22 = .ok (.ifCond .ne 25, 3) := by decide +kernel
theorem d_R_some_25 : decode b_R_some 25 = .ok (.aload_n 0, 1) := by decide +kernel
theorem d_R_some_26 : decode b_R_some 26 = .ok (.iload_n 3, 1) := by decide +kernel
theorem d_R_some_27 : decode b_R_some 27 = .ok (.bipush 32, 2) := by decide +kernel
theorem d_R_some_29 : decode b_R_some 29 = .ok (.invokevirtual 24, 3) := by decide +kernel
theorem d_R_some_32 : decode b_R_some 32 = .ok (.ifCond .ne 15, 3) := by decide +kernel
theorem d_R_some_35 : decode b_R_some 35 = .ok (.aload_n 0, 1) := by decide +kernel
theorem d_R_some_36 : decode b_R_some 36 = .ok (.iload 4, 2) := by decide +kernel
theorem d_R_some_38 : decode b_R_some 38 = .ok (.sipush 4096, 3) := by decide +kernel
theorem d_R_some_41 : decode b_R_some 41 = .ok (.invokevirtual 24, 3) := by decide +kernel
theorem d_R_some_44 : decode b_R_some 44 = .ok (.ifCond .eq 9, 3) := by decide +kernel
theorem d_R_some_47 : decode b_R_some 47 = .ok (.aload_n 0, 1) := by decide +kernel
theorem d_R_some_48 : decode b_R_some 48 = .ok (.iconst 1, 1) := by decide +kernel
theorem d_R_some_49 : decode b_R_some 49 = .ok (.invokevirtual 28, 3) := by decide +kernel
theorem d_R_some_52 : decode b_R_some 52 = .ok (.ireturn, 1) := by decide +kernel
theorem d_R_some_53 : decode b_R_some 53 = .ok (.iconst 0, 1) := by decide +kernel
theorem d_R_some_54 : decode b_R_some 54 = .ok (.istore 5, 2) := by decide +kernel
theorem d_R_some_56 : decode b_R_some 56 = .ok (.iload 5, 2) := by decide +kernel
theorem d_R_some_58 : decode b_R_some 58 = .ok (.sipush 4096, 3) := by decide +kernel
theorem d_R_some_61 : decode b_R_some 61 = .ok (.if_icmp .ge 41, 3) := by decide +kernel
theorem d_R_some_64 : decode b_R_some 64 = .ok (.aload_n 0, 1) := by decide +kernel
theorem d_R_some_65 : decode b_R_some 65 = .ok (.getfield 17, 3) := by decide +kernel
theorem d_R_some_68 : decode b_R_some 68 = .ok (.iload 5, 2) := by decide +kernel
theorem d_R_some_70 : decode b_R_some 70 = .ok (.aload_n 0, 1) := by decide +kernel
theorem d_R_some_71 : decode b_R_some 71 = .ok (.iload_n 2, 1) := by decide +kernel
theorem d_R_some_72 : decode b_R_some 72 = .ok (.iload 5, 2) := by decide +kernel
theorem d_R_some_74 : decode b_R_some 74 = .ok (.invokevirtual 32, 3) := by decide +kernel
theorem d_R_some_77 : decode b_R_some 77 = .ok (.ifCond .eq 17, 3) := by decide +kernel
theorem d_R_some_80 : decode b_R_some 80 = .ok (.aload_n 0, 1) := by decide +kernel
theorem d_R_some_81 : decode b_R_some 81 = .ok (.iload_n 3, 1) := by decide +kernel
theorem d_R_some_82 : decode b_R_some 82 = .ok (.iload 5, 2) := by decide +kernel
theorem d_R_some_84 : decode b_R_some 84 = .ok (.invokevirtual 32, 3) := by decide +kernel
theorem d_R_some_87 : decode b_R_some 87 = .ok (.ifCond .eq 7, 3) := by decide +kernel
theorem d_R_some_90 : decode b_R_some 90 = .ok (.iconst 1, 1) := by decide +kernel
theorem d_R_some_91 : decode b_R_some 91 = .ok (.goto 4, 3) := by decide +kernel
theorem d_R_some_94 : decode b_R_some 94 = .ok (.iconst 0, 1) := by decide +kernel
theorem d_R_some_95 : decode b_R_some 95 = .ok (.bastore, 1) := by decide +kernel
theorem d_R_some_96 : decode b_R_some 96 = .ok (.iinc 5 1, 3) := by decide +kernel
theorem d_R_some_99 : decode b_R_some 99 = .ok (.goto (-43), 3) := by decide +kernel
theorem d_R_some_102 : decode b_R_some 102 = .ok (.iconst 0, 1) := by decide +kernel
theorem d_R_some_103 : decode b_R_some 103 = .ok (.istore 5, 2) := by decide +kernel
theorem d_R_some_105 : decode b_R_some 105 = .ok (.iload 5, 2) := by decide +kernel
theorem d_R_some_107 : decode b_R_some 107 = .ok (.sipush 4096, 3) := by decide +kernel
theorem d_R_some_110 : decode b_R_some 110 = .ok (.if_icmp .ge 17, 3) := by decide +kernel
theorem d_R_some_113 : decode b_R_some 113 = .ok (.aload_n 0, 1) := by decide +kernel
theorem d_R_some_114 : decode b_R_some 114 = .ok (.getfield 14, 3) := by decide +kernel
theorem d_R_some_117 : decode b_R_some 117 = .ok (.iload 5, 2) := by decide +kernel
theorem d_R_some_119 : decode b_R_some 119 = .ok (.iconst 0, 1) := by decide +kernel
theorem d_R_some_120 : decode b_R_some 120 = .ok (.bastore, 1) := by decide +kernel
theorem d_R_some_121 : decode b_R_some 121 = .ok (.iinc 5 1, 3) := by decide +kernel
theorem d_R_some_124 : decode b_R_some 124 = .ok (.goto (-19), 3) := by decide +kernel
theorem d_R_some_127 : decode b_R_some 127 = .ok (.iconst 0, 1) := by decide +kernel
theorem d_R_some_128 : decode b_R_some 128 = .ok (.istore 5, 2) := by decide +kernel
theorem d_R_some_130 : decode b_R_some 130 = .ok (.iload 5, 2) := by decide +kernel
theorem d_R_some_132 : decode b_R_some 132 = .ok (.sipush 4096, 3) := by decide +kernel
theorem d_R_some_135 : decode b_R_some 135 = .ok (.if_icmp .ge 32, 3) := by decide +kernel
theorem d_R_some_138 : decode b_R_some 138 = .ok (.aload_n 0, 1) := by decide +kernel
theorem d_R_some_139 : decode b_R_some 139 = .ok (.getfield 17, 3) := by decide +kernel
theorem d_R_some_142 : decode b_R_some 142 = .ok (.iload 5, 2) := by decide +kernel
theorem d_R_some_144 : decode b_R_some 144 = .ok (.baload, 1) := by decide +kernel
theorem d_R_some_145 : decode b_R_some 145 = .ok (.ifCond .eq 16, 3) := by decide +kernel
theorem d_R_some_148 : decode b_R_some 148 = .ok (.aload_n 0, 1) := by decide +kernel
theorem d_R_some_149 : decode b_R_some 149 = .ok (.getfield 14, 3) := by decide +kernel
theorem d_R_some_152 : decode b_R_some 152 = .ok (.iload 5, 2) := by decide +kernel
theorem d_R_some_154 : decode b_R_some 154 = .ok (.iload 4, 2) := by decide +kernel
theorem d_R_some_156 : decode b_R_some 156 = .ok (.iconst (-1), 1) := by decide +kernel
theorem d_R_some_157 : decode b_R_some 157 = .ok (.ixor, 1) := by decide +kernel
theorem d_R_some_158 : decode b_R_some 158 = .ok (.iand, 1) := by decide +kernel
theorem d_R_some_159 : decode b_R_some 159 = .ok (.iconst 1, 1) := by decide +kernel
theorem d_R_some_160 : decode b_R_some 160 = .ok (.bastore, 1) := by decide +kernel
theorem d_R_some_161 : decode b_R_some 161 = .ok (.iinc 5 1, 3) := by decide +kernel
theorem d_R_some_164 : decode b_R_some 164 = .ok (.goto (-34), 3) := by decide +kernel
theorem d_R_some_167 : decode b_R_some 167 = .ok (.iconst 0, 1) := by decide +kernel
theorem d_R_some_168 : decode b_R_some 168 = .ok (.istore 5, 2) := by decide +kernel
theorem d_R_some_170 : decode b_R_some 170 = .ok (.iload 5, 2) := by decide +kernel
theorem d_R_some_172 : decode b_R_some 172 = .ok (.sipush 4096, 3) := by decide +kernel
theorem d_R_some_175 : decode b_R_some 175 = .ok (.if_icmp .ge 28, 3) := by decide +kernel
theorem d_R_some_178 : decode b_R_some 178 = .ok (.aload_n 0, 1) := by decide +kernel
theorem d_R_some_179 : decode b_R_some 179 = .ok (.getfield 14, 3) := by decide +kernel
theorem d_R_some_182 : decode b_R_some 182 = .ok (.iload 5, 2) := by decide +kernel
theorem d_R_some_184 : decode b_R_some 184 = .ok (.aload_n 0, 1) := by decide +kernel
theorem d_R_some_185 : decode b_R_some 185 = .ok (.getfield 14, 3) := by decide +kernel
theorem d_R_some_188 : decode b_R_some 188 = .ok (.iload 5, 2) := by decide +kernel
theorem d_R_some_190 : decode b_R_some 190 = .ok (.iload 4, 2) := by decide +kernel
theorem d_R_some_192 : decode b_R_some 192 = .ok (.iconst (-1), 1) := by decide +kernel
theorem d_R_some_193 : decode b_R_some 193 = .ok (.ixor, 1) := by decide +kernel
theorem d_R_some_194 : decode b_R_some 194 = .ok (.iand, 1) := by decide +kernel
theorem d_R_some_195 : decode b_R_some 195 = .ok (.baload, 1) := by decide +kernel
theorem d_R_some_196 : decode b_R_some 196 = .ok (.bastore, 1) := by decide +kernel
theorem d_R_some_197 : decode b_R_some 197 = .ok (.iinc 5 1, 3) := by decide +kernel
theorem d_R_some_200 : decode b_R_some 200 = .ok (.goto (-30), 3) := by decide +kernel
theorem d_R_some_203 : decode b_R_some 203 = .ok (.aload_n 0, 1) := by decide +kernel
theorem d_R_some_204 : decode b_R_some 204 = .ok (.iload_n 1, 1) := by decide +kernel
theorem d_R_some_205 : decode b_R_some 205 = .ok (.invokevirtual 35, 3) := by decide +kernel
theorem d_R_some_208 : decode b_R_some 208 = .ok (.ireturn, 1) := by decide +kernel
theorem d_R_turn_0 : decode b_R_turn 0 = .ok (.aload_n 0, 1) := by decide +kernel
theorem d_R_turn_1 : decode b_R_turn 1 = .ok (.iconst 0, 1) := by decide +kernel
theorem d_R_turn_2 : decode b_R_turn 2 = .ok (.putfield 20, 3) := by decide +kernel
theorem d_R_turn_5 : decode b_R_turn 5 = .ok (.aload_n 0, 1) := by decide +kernel
theorem d_R_turn_6 : decode b_R_turn 6 = .ok (.iload_n 1, 1) := by decide +kernel
theorem d_R_turn_7 : decode b_R_turn 7 = .ok (.bipush 32, 2) := by decide +kernel
theorem d_R_turn_9 : decode b_R_turn 9 = .ok (.invokevirtual 24, 3) := by decide +kernel
theorem d_R_turn_12 : decode b_R_turn 12 = .ok (.ifCond .ne 13, 3) := by decide +kernel
theorem d_R_turn_15 : decode b_R_turn 15 = .ok (.aload_n 0, 1) := by decide +kernel
theorem d_R_turn_16 : decode b_R_turn 16 = .ok (.iload_n 2, 1) := by decide +kernel
theorem d_R_turn_17 : decode b_R_turn 17 = .ok (.bipush 32, 2) := by decide +kernel
theorem d_R_turn_19 : decode b_R_turn 19 = .ok (.invokevirtual 24, 3) := by decide +kernel
theorem d_R_turn_22 : decode b_R_turn 22 = .ok (.ifCond .eq 9, 3) := by decide +kernel
theorem d_R_turn_25 : decode b_R_turn 25 = .ok (.aload_n 0, 1) := by decide +kernel
theorem d_R_turn_26 : decode b_R_turn 26 = .ok (.iconst 1, 1) := by decide +kernel
theorem d_R_turn_27 : decode b_R_turn 27 = .ok (.invokevirtual 28, 3) := by decide +kernel
theorem d_R_turn_30 : decode b_R_turn 30 = .ok (.ireturn, 1) := by decide +kernel
theorem d_R_turn_31 : decode b_R_turn 31 = .ok (.iconst 0, 1) := by decide +kernel
theorem d_R_turn_32 : decode b_R_turn 32 = .ok (.istore_n 3, 1) := by decide +kernel
theorem d_R_turn_33 : decode b_R_turn 33 = .ok (.iload_n 3, 1) := by decide +kernel
theorem d_R_turn_34 : decode b_R_turn 34 = .ok (.sipush 4096, 3) := by decide +kernel
theorem d_R_turn_37 : decode b_R_turn 37 = .ok (.if_icmp .ge 35, 3) := by decide +kernel
theorem d_R_turn_40 : decode b_R_turn 40 = .ok (.aload_n 0, 1) := by decide +kernel
theorem d_R_turn_41 : decode b_R_turn 41 = .ok (.getfield 14, 3) := by decide +kernel
theorem d_R_turn_44 : decode b_R_turn 44 = .ok (.iload_n 3, 1) := by decide +kernel
theorem d_R_turn_45 : decode b_R_turn 45 = .ok (.aload_n 0, 1) := by decide +kernel
theorem d_R_turn_46 : decode b_R_turn 46 = .ok (.iload_n 2, 1) := by decide +kernel
theorem d_R_turn_47 : decode b_R_turn 47 = .ok (.iload_n 3, 1) := by decide +kernel
theorem d_R_turn_48 : decode b_R_turn 48 = .ok (.sipush 1365, 3) := by decide +kernel
theorem d_R_turn_51 : decode b_R_turn 51 = .ok (.iand, 1) := by decide +kernel
theorem d_R_turn_52 : decode b_R_turn 52 = .ok (.iconst 2, 1) := by decide +kernel
theorem d_R_turn_53 : decode b_R_turn 53 = .ok (.imul, 1) := by decide +kernel
theorem d_R_turn_54 : decode b_R_turn 54 = .ok (.iload_n 3, 1) := by decide +kernel
theorem d_R_turn_55 : decode b_R_turn 55 = .ok (.iconst 1, 1) := by decide +kernel
theorem d_R_turn_56 : decode b_R_turn 56 = .ok (.ishr, 1) := by decide +kernel
theorem d_R_turn_57 : decode b_R_turn 57 = .ok (.sipush 1365, 3) := by decide +kernel
theorem d_R_turn_60 : decode b_R_turn 60 = .ok (.iand, 1) := by decide +kernel
theorem d_R_turn_61 : decode b_R_turn 61 = .ok (.iadd, 1) := by decide +kernel
theorem d_R_turn_62 : decode b_R_turn 62 = .ok (.invokevirtual 32, 3) := by decide +kernel
theorem d_R_turn_65 : decode b_R_turn 65 = .ok (.bastore, 1) := by decide +kernel
theorem d_R_turn_66 : decode b_R_turn 66 = .ok (.iinc 3 1, 3) := by decide +kernel
theorem d_R_turn_69 : decode b_R_turn 69 = .ok (.goto (-36), 3) := by decide +kernel
theorem d_R_turn_72 : decode b_R_turn 72 = .ok (.aload_n 0, 1) := by decide +kernel
theorem d_R_turn_73 : decode b_R_turn 73 = .ok (.iload_n 1, 1) := by decide +kernel
theorem d_R_turn_74 : decode b_R_turn 74 = .ok (.invokevirtual 35, 3) := by decide +kernel
theorem d_R_turn_77 : decode b_R_turn 77 = .ok (.ireturn, 1) := by decide +kernel
theorem d_R_value_0 : decode b_R_value 0 = .ok (.aload_n 0, 1) := by decide +kernel
theorem d_R_value_1 : decode b_R_value 1 = .ok (.iconst 0, 1) := by decide +kernel
theorem d_R_value_2 : decode b_R_value 2 = .ok (.putfield 20, 3) := by decide +kernel
theorem d_R_value_5 : decode b_R_value 5 = .ok (.aload_n 0, 1) := by decide +kernel
theorem d_R_value_6 : decode b_R_value 6 = .ok (.iload_n 1, 1) := by decide +kernel
theorem d_R_value_7 : decode b_R_value 7 = .ok (.bipush 32, 2) := by decide +kernel
theorem d_R_value_9 : decode b_R_value 9 = .ok (.invokevirtual 24, 3) := by decide +kernel
theorem d_R_value_12 : decode b_R_value 12 = .ok (.ifCond .ne 14, 3) := by decide +kernel
theorem d_R_value_15 : decode b_R_value 15 = .ok (.aload_n 0, 1) := by decide +kernel
theorem d_R_value_16 : decode b_R_value 16 = .ok (.iload_n 2, 1) := by decide +kernel
theorem d_R_value_17 : decode b_R_value 17 = .ok (.sipush 4096, 3) := by decide +kernel
theorem d_R_value_20 : decode b_R_value 20 = .ok (.invokevirtual 24, 3) := by decide +kernel
theorem d_R_value_23 : decode b_R_value 23 = .ok (.ifCond .eq 9, 3) := by decide +kernel
theorem d_R_value_26 : decode b_R_value 26 = .ok (.aload_n 0, 1) := by decide +kernel
theorem d_R_value_27 : decode b_R_value 27 = .ok (.iconst 1, 1) := by decide +kernel
theorem d_R_value_28 : decode b_R_value 28 = .ok (.invokevirtual 28, 3) := by decide +kernel
theorem d_R_value_31 : decode b_R_value 31 = .ok (.ireturn, 1) := by decide +kernel
theorem d_R_value_32 : decode b_R_value 32 = .ok (.aload_n 0, 1) := by decide +kernel
theorem d_R_value_33 : decode b_R_value 33 = .ok (.iload_n 1, 1) := by decide +kernel
theorem d_R_value_34 : decode b_R_value 34 = .ok (.iload_n 2, 1) := by decide +kernel
theorem d_R_value_35 : decode b_R_value 35 = .ok (.invokevirtual 32, 3) := by decide +kernel
theorem d_R_value_38 : decode b_R_value 38 = .ok (.ireturn, 1) := by decide +kernel
theorem d_R_same_0 : decode b_R_same 0 = .ok (.aload_n 0, 1) := by decide +kernel
theorem d_R_same_1 : decode b_R_same 1 = .ok (.iconst 0, 1) := by decide +kernel
theorem d_R_same_2 : decode b_R_same 2 = .ok (.putfield 20, 3) := by decide +kernel
theorem d_R_same_5 : decode b_R_same 5 = .ok (.aload_n 0, 1) := by decide +kernel
theorem d_R_same_6 : decode b_R_same 6 = .ok (.iload_n 1, 1) := by decide +kernel
theorem d_R_same_7 : decode b_R_same 7 = .ok (.bipush 32, 2) := by decide +kernel
theorem d_R_same_9 : decode b_R_same 9 = .ok (.invokevirtual 24, 3) := by decide +kernel
theorem d_R_same_12 : decode b_R_same 12 = .ok (.ifCond .ne 13, 3) := by decide +kernel
theorem d_R_same_15 : decode b_R_same 15 = .ok (.aload_n 0, 1) := by decide +kernel
theorem d_R_same_16 : decode b_R_same 16 = .ok (.iload_n 2, 1) := by decide +kernel
theorem d_R_same_17 : decode b_R_same 17 = .ok (.bipush 32, 2) := by decide +kernel
theorem d_R_same_19 : decode b_R_same 19 = .ok (.invokevirtual 24, 3) := by decide +kernel
theorem d_R_same_22 : decode b_R_same 22 = .ok (.ifCond .eq 9, 3) := by decide +kernel
theorem d_R_same_25 : decode b_R_same 25 = .ok (.aload_n 0, 1) := by decide +kernel
theorem d_R_same_26 : decode b_R_same 26 = .ok (.iconst 1, 1) := by decide +kernel
theorem d_R_same_27 : decode b_R_same 27 = .ok (.invokevirtual 28, 3) := by decide +kernel
theorem d_R_same_30 : decode b_R_same 30 = .ok (.ireturn, 1) := by decide +kernel
theorem d_R_same_31 : decode b_R_same 31 = .ok (.iconst 0, 1) := by decide +kernel
theorem d_R_same_32 : decode b_R_same 32 = .ok (.istore_n 3, 1) := by decide +kernel
theorem d_R_same_33 : decode b_R_same 33 = .ok (.iload_n 3, 1) := by decide +kernel
theorem d_R_same_34 : decode b_R_same 34 = .ok (.sipush 4096, 3) := by decide +kernel
theorem d_R_same_37 : decode b_R_same 37 = .ok (.if_icmp .ge 26, 3) := by decide +kernel
theorem d_R_same_40 : decode b_R_same 40 = .ok (.aload_n 0, 1) := by decide +kernel
theorem d_R_same_41 : decode b_R_same 41 = .ok (.iload_n 1, 1) := by decide +kernel
theorem d_R_same_42 : decode b_R_same 42 = .ok (.iload_n 3, 1) := by decide +kernel
theorem d_R_same_43 : decode b_R_same 43 = .ok (.invokevirtual 32, 3) := by decide +kernel
theorem d_R_same_46 : decode b_R_same 46 = .ok (.aload_n 0, 1) := by decide +kernel
theorem d_R_same_47 : decode b_R_same 47 = .ok (.iload_n 2, 1) := by decide +kernel
theorem d_R_same_48 : decode b_R_same 48 = .ok (.iload_n 3, 1) := by decide +kernel
theorem d_R_same_49 : decode b_R_same 49 = .ok (.invokevirtual 32, 3) := by decide +kernel
theorem d_R_same_52 : decode b_R_same 52 = .ok (.if_icmp .eq 5, 3) := by decide +kernel
theorem d_R_same_55 : decode b_R_same 55 = .ok (.iconst 0, 1) := by decide +kernel
theorem d_R_same_56 : decode b_R_same 56 = .ok (.ireturn, 1) := by decide +kernel
theorem d_R_same_57 : decode b_R_same 57 = .ok (.iinc 3 1, 3) := by decide +kernel
theorem d_R_same_60 : decode b_R_same 60 = .ok (.goto (-27), 3) := by decide +kernel
theorem d_R_same_63 : decode b_R_same 63 = .ok (.iconst 1, 1) := by decide +kernel
theorem d_R_same_64 : decode b_R_same 64 = .ok (.ireturn, 1) := by decide +kernel
theorem d_R_count_0 : decode b_R_count 0 = .ok (.aload_n 0, 1) := by decide +kernel
theorem d_R_count_1 : decode b_R_count 1 = .ok (.iconst 0, 1) := by decide +kernel
theorem d_R_count_2 : decode b_R_count 2 = .ok (.putfield 20, 3) := by decide +kernel
theorem d_R_count_5 : decode b_R_count 5 = .ok (.aload_n 0, 1) := by decide +kernel
theorem d_R_count_6 : decode b_R_count 6 = .ok (.iload_n 1, 1) := by decide +kernel
theorem d_R_count_7 : decode b_R_count 7 = .ok (.bipush 32, 2) := by decide +kernel
theorem d_R_count_9 : decode b_R_count 9 = .ok (.invokevirtual 24, 3) := by decide +kernel
theorem d_R_count_12 : decode b_R_count 12 = .ok (.ifCond .eq 10, 3) := by decide +kernel
theorem d_R_count_15 : decode b_R_count 15 = .ok (.aload_n 0, 1) := by decide +kernel
theorem d_R_count_16 : decode b_R_count 16 = .ok (.iconst 1, 1) := by decide +kernel
theorem d_R_count_17 : decode b_R_count 17 = .ok (.putfield 20, 3) := by decide +kernel
theorem d_R_count_20 : decode b_R_count 20 = .ok (.iconst 0, 1) := by decide +kernel
theorem d_R_count_21 : decode b_R_count 21 = .ok (.ireturn, 1) := by decide +kernel
theorem d_R_count_22 : decode b_R_count 22 = .ok (.aload_n 0, 1) := by decide +kernel
theorem d_R_count_23 : decode b_R_count 23 = .ok (.iload_n 1, 1) := by decide +kernel
theorem d_R_count_24 : decode b_R_count 24 = .ok (.invokevirtual 38, 3) := by decide +kernel
theorem d_R_count_27 : decode b_R_count 27 = .ok (.sipush 2730, 3) := by decide +kernel
theorem d_R_count_30 : decode b_R_count 30 = .ok (.iand, 1) := by decide +kernel
theorem d_R_count_31 : decode b_R_count 31 = .ok (.ifCond .eq 10, 3) := by decide +kernel
theorem d_R_count_34 : decode b_R_count 34 = .ok (.aload_n 0, 1) := by decide +kernel
theorem d_R_count_35 : decode b_R_count 35 = .ok (.iconst 2, 1) := by decide +kernel
theorem d_R_count_36 : decode b_R_count 36 = .ok (.putfield 20, 3) := by decide +kernel
theorem d_R_count_39 : decode b_R_count 39 = .ok (.iconst 0, 1) := by decide +kernel
theorem d_R_count_40 : decode b_R_count 40 = .ok (.ireturn, 1) := by decide +kernel
theorem d_R_count_41 : decode b_R_count 41 = .ok (.iconst 0, 1) := by decide +kernel
theorem d_R_count_42 : decode b_R_count 42 = .ok (.istore_n 2, 1) := by decide +kernel
theorem d_R_count_43 : decode b_R_count 43 = .ok (.iconst 0, 1) := by decide +kernel
theorem d_R_count_44 : decode b_R_count 44 = .ok (.istore_n 3, 1) := by decide +kernel
theorem d_R_count_45 : decode b_R_count 45 = .ok (.iload_n 3, 1) := by decide +kernel
theorem d_R_count_46 : decode b_R_count 46 = .ok (.sipush 4096, 3) := by decide +kernel
theorem d_R_count_49 : decode b_R_count 49 = .ok (.if_icmp .ge 26, 3) := by decide +kernel
theorem d_R_count_52 : decode b_R_count 52 = .ok (.iload_n 2, 1) := by decide +kernel
theorem d_R_count_53 : decode b_R_count 53 = .ok (.aload_n 0, 1) := by decide +kernel
theorem d_R_count_54 : decode b_R_count 54 = .ok (.iload_n 1, 1) := by decide +kernel
theorem d_R_count_55 : decode b_R_count 55 = .ok (.iload_n 3, 1) := by decide +kernel
theorem d_R_count_56 : decode b_R_count 56 = .ok (.invokevirtual 32, 3) := by decide +kernel
theorem d_R_count_59 : decode b_R_count 59 = .ok (.ifCond .eq 7, 3) := by decide +kernel
theorem d_R_count_62 : decode b_R_count 62 = .ok (.iconst 1, 1) := by decide +kernel
theorem d_R_count_63 : decode b_R_count 63 = .ok (.goto 4, 3) := by decide +kernel
theorem d_R_count_66 : decode b_R_count 66 = .ok (.iconst 0, 1) := by decide +kernel
theorem d_R_count_67 : decode b_R_count 67 = .ok (.iadd, 1) := by decide +kernel
theorem d_R_count_68 : decode b_R_count 68 = .ok (.istore_n 2, 1) := by decide +kernel
theorem d_R_count_69 : decode b_R_count 69 = .ok (.iinc 3 1, 3) := by decide +kernel
theorem d_R_count_72 : decode b_R_count 72 = .ok (.goto (-27), 3) := by decide +kernel
theorem d_R_count_75 : decode b_R_count 75 = .ok (.iload_n 2, 1) := by decide +kernel
theorem d_R_count_76 : decode b_R_count 76 = .ok (.bipush 64, 2) := by decide +kernel
theorem d_R_count_78 : decode b_R_count 78 = .ok (.idiv, 1) := by decide +kernel
theorem d_R_count_79 : decode b_R_count 79 = .ok (.ireturn, 1) := by decide +kernel
theorem d_R_hangs_0 : decode b_R_hangs 0 = .ok (.iconst 0, 1) := by decide +kernel
theorem d_R_hangs_1 : decode b_R_hangs 1 = .ok (.istore_n 2, 1) := by decide +kernel
theorem d_R_hangs_2 : decode b_R_hangs 2 = .ok (.iconst 0, 1) := by decide +kernel
theorem d_R_hangs_3 : decode b_R_hangs 3 = .ok (.istore_n 3, 1) := by decide +kernel
theorem d_R_hangs_4 : decode b_R_hangs 4 = .ok (.iload_n 3, 1) := by decide +kernel
theorem d_R_hangs_5 : decode b_R_hangs 5 = .ok (.bipush 12, 2) := by decide +kernel
theorem d_R_hangs_7 : decode b_R_hangs 7 = .ok (.if_icmp .ge 53, 3) := by decide +kernel
theorem d_R_hangs_10 : decode b_R_hangs 10 = .ok (.iconst 0, 1) := by decide +kernel
theorem d_R_hangs_11 : decode b_R_hangs 11 = .ok (.istore 4, 2) := by decide +kernel
theorem d_R_hangs_13 : decode b_R_hangs 13 = .ok (.iload 4, 2) := by decide +kernel
theorem d_R_hangs_15 : decode b_R_hangs 15 = .ok (.sipush 4096, 3) := by decide +kernel
theorem d_R_hangs_18 : decode b_R_hangs 18 = .ok (.if_icmp .ge 36, 3) := by decide +kernel
theorem d_R_hangs_21 : decode b_R_hangs 21 = .ok (.aload_n 0, 1) := by decide +kernel
theorem d_R_hangs_22 : decode b_R_hangs 22 = .ok (.iload_n 1, 1) := by decide +kernel
theorem d_R_hangs_23 : decode b_R_hangs 23 = .ok (.iload 4, 2) := by decide +kernel
theorem d_R_hangs_25 : decode b_R_hangs 25 = .ok (.invokevirtual 32, 3) := by decide +kernel
theorem d_R_hangs_28 : decode b_R_hangs 28 = .ok (.aload_n 0, 1) := by decide +kernel
theorem d_R_hangs_29 : decode b_R_hangs 29 = .ok (.iload_n 1, 1) := by decide +kernel
theorem d_R_hangs_30 : decode b_R_hangs 30 = .ok (.iload 4, 2) := by decide +kernel
theorem d_R_hangs_32 : decode b_R_hangs 32 = .ok (.iconst 1, 1) := by decide +kernel
theorem d_R_hangs_33 : decode b_R_hangs 33 = .ok (.iload_n 3, 1) := by decide +kernel
theorem d_R_hangs_34 : decode b_R_hangs 34 = .ok (.ishl, 1) := by decide +kernel
theorem d_R_hangs_35 : decode b_R_hangs 35 = .ok (.ixor, 1) := by decide +kernel
theorem d_R_hangs_36 : decode b_R_hangs 36 = .ok (.invokevirtual 32, 3) := by decide +kernel
theorem d_R_hangs_39 : decode b_R_hangs 39 = .ok (.if_icmp .eq 9, 3) := by decide +kernel
theorem d_R_hangs_42 : decode b_R_hangs 42 = .ok (.iload_n 2, 1) := by decide +kernel
theorem d_R_hangs_43 : decode b_R_hangs 43 = .ok (.iconst 1, 1) := by decide +kernel
theorem d_R_hangs_44 : decode b_R_hangs 44 = .ok (.iload_n 3, 1) := by decide +kernel
theorem d_R_hangs_45 : decode b_R_hangs 45 = .ok (.ishl, 1) := by decide +kernel
theorem d_R_hangs_46 : decode b_R_hangs 46 = .ok (.ior, 1) := by decide +kernel
theorem d_R_hangs_47 : decode b_R_hangs 47 = .ok (.istore_n 2, 1) := by decide +kernel
theorem d_R_hangs_48 : decode b_R_hangs 48 = .ok (.iinc 4 1, 3) := by decide +kernel
theorem d_R_hangs_51 : decode b_R_hangs 51 = .ok (.goto (-38), 3) := by decide +kernel
theorem d_R_hangs_54 : decode b_R_hangs 54 = .ok (.iinc 3 1, 3) := by decide +kernel
theorem d_R_hangs_57 : decode b_R_hangs 57 = .ok (.goto (-53), 3) := by decide +kernel
theorem d_R_hangs_60 : decode b_R_hangs 60 = .ok (.iload_n 2, 1) := by decide +kernel
theorem d_R_hangs_61 : decode b_R_hangs 61 = .ok (.ireturn, 1) := by decide +kernel
theorem d_R_support_0 : decode b_R_support 0 = .ok (.aload_n 0, 1) := by decide +kernel
theorem d_R_support_1 : decode b_R_support 1 = .ok (.iconst 0, 1) := by decide +kernel
theorem d_R_support_2 : decode b_R_support 2 = .ok (.putfield 20, 3) := by decide +kernel
theorem d_R_support_5 : decode b_R_support 5 = .ok (.aload_n 0, 1) := by decide +kernel
theorem d_R_support_6 : decode b_R_support 6 = .ok (.iload_n 1, 1) := by decide +kernel
theorem d_R_support_7 : decode b_R_support 7 = .ok (.bipush 32, 2) := by decide +kernel
theorem d_R_support_9 : decode b_R_support 9 = .ok (.invokevirtual 24, 3) := by decide +kernel
theorem d_R_support_12 : decode b_R_support 12 = .ok (.ifCond .ne 9, 3) := by decide +kernel
theorem d_R_support_15 : decode b_R_support 15 = .ok (.aload_n 0, 1) := by decide +kernel
theorem d_R_support_16 : decode b_R_support 16 = .ok (.iload_n 1, 1) := by decide +kernel
theorem d_R_support_17 : decode b_R_support 17 = .ok (.invokevirtual 38, 3) := by decide +kernel
theorem d_R_support_20 : decode b_R_support 20 = .ok (.ireturn, 1) := by decide +kernel
theorem d_R_support_21 : decode b_R_support 21 = .ok (.aload_n 0, 1) := by decide +kernel
theorem d_R_support_22 : decode b_R_support 22 = .ok (.iconst 1, 1) := by decide +kernel
theorem d_R_support_23 : decode b_R_support 23 = .ok (.putfield 20, 3) := by decide +kernel
theorem d_R_support_26 : decode b_R_support 26 = .ok (.iconst 0, 1) := by decide +kernel
theorem d_R_support_27 : decode b_R_support 27 = .ok (.ireturn, 1) := by decide +kernel
theorem d_R_tidy_0 : decode b_R_tidy 0 = .ok (.aload_n 0, 1) := by decide +kernel
theorem d_R_tidy_1 : decode b_R_tidy 1 = .ok (.iconst 0, 1) := by decide +kernel
theorem d_R_tidy_2 : decode b_R_tidy 2 = .ok (.putfield 20, 3) := by decide +kernel
theorem d_R_tidy_5 : decode b_R_tidy 5 = .ok (.aload_n 0, 1) := by decide +kernel
theorem d_R_tidy_6 : decode b_R_tidy 6 = .ok (.iload_n 1, 1) := by decide +kernel
theorem d_R_tidy_7 : decode b_R_tidy 7 = .ok (.iconst 3, 1) := by decide +kernel
theorem d_R_tidy_8 : decode b_R_tidy 8 = .ok (.invokevirtual 24, 3) := by decide +kernel
theorem d_R_tidy_11 : decode b_R_tidy 11 = .ok (.ifCond .eq 10, 3) := by decide +kernel
theorem d_R_tidy_14 : decode b_R_tidy 14 = .ok (.aload_n 0, 1) := by decide +kernel
theorem d_R_tidy_15 : decode b_R_tidy 15 = .ok (.iconst 1, 1) := by decide +kernel
theorem d_R_tidy_16 : decode b_R_tidy 16 = .ok (.putfield 20, 3) := by decide +kernel
theorem d_R_tidy_19 : decode b_R_tidy 19 = .ok (.iconst 0, 1) := by decide +kernel
theorem d_R_tidy_20 : decode b_R_tidy 20 = .ok (.ireturn, 1) := by decide +kernel
theorem d_R_tidy_21 : decode b_R_tidy 21 = .ok (.iconst 0, 1) := by decide +kernel
theorem d_R_tidy_22 : decode b_R_tidy 22 = .ok (.istore_n 2, 1) := by decide +kernel
theorem d_R_tidy_23 : decode b_R_tidy 23 = .ok (.iconst 0, 1) := by decide +kernel
theorem d_R_tidy_24 : decode b_R_tidy 24 = .ok (.istore_n 3, 1) := by decide +kernel
theorem d_R_tidy_25 : decode b_R_tidy 25 = .ok (.iload_n 3, 1) := by decide +kernel
theorem d_R_tidy_26 : decode b_R_tidy 26 = .ok (.bipush 32, 2) := by decide +kernel
theorem d_R_tidy_28 : decode b_R_tidy 28 = .ok (.if_icmp .ge 56, 3) := by decide +kernel
theorem d_R_tidy_31 : decode b_R_tidy 31 = .ok (.iconst 0, 1) := by decide +kernel
theorem d_R_tidy_32 : decode b_R_tidy 32 = .ok (.istore 4, 2) := by decide +kernel
theorem d_R_tidy_34 : decode b_R_tidy 34 = .ok (.iconst 0, 1) := by decide +kernel
theorem d_R_tidy_35 : decode b_R_tidy 35 = .ok (.istore 5, 2) := by decide +kernel
theorem d_R_tidy_37 : decode b_R_tidy 37 = .ok (.iload 5, 2) := by decide +kernel
theorem d_R_tidy_39 : decode b_R_tidy 39 = .ok (.sipush 4096, 3) := by decide +kernel
theorem d_R_tidy_42 : decode b_R_tidy 42 = .ok (.if_icmp .ge 23, 3) := by decide +kernel
theorem d_R_tidy_45 : decode b_R_tidy 45 = .ok (.iload 4, 2) := by decide +kernel
theorem d_R_tidy_47 : decode b_R_tidy 47 = .ok (.ifCond .ne 18, 3) := by decide +kernel
theorem d_R_tidy_50 : decode b_R_tidy 50 = .ok (.aload_n 0, 1) := by decide +kernel
theorem d_R_tidy_51 : decode b_R_tidy 51 = .ok (.iload_n 3, 1) := by decide +kernel
theorem d_R_tidy_52 : decode b_R_tidy 52 = .ok (.iload 5, 2) := by decide +kernel
theorem d_R_tidy_54 : decode b_R_tidy 54 = .ok (.invokevirtual 32, 3) := by decide +kernel
theorem d_R_tidy_57 : decode b_R_tidy 57 = .ok (.istore 4, 2) := by decide +kernel
theorem d_R_tidy_59 : decode b_R_tidy 59 = .ok (.iinc 5 1, 3) := by decide +kernel
theorem d_R_tidy_62 : decode b_R_tidy 62 = .ok (.goto (-25), 3) := by decide +kernel
theorem d_R_tidy_65 : decode b_R_tidy 65 = .ok (.iload_n 2, 1) := by decide +kernel
theorem d_R_tidy_66 : decode b_R_tidy 66 = .ok (.iload 4, 2) := by decide +kernel
theorem d_R_tidy_68 : decode b_R_tidy 68 = .ok (.ifCond .eq 7, 3) := by decide +kernel
theorem d_R_tidy_71 : decode b_R_tidy 71 = .ok (.iconst 1, 1) := by decide +kernel
theorem d_R_tidy_72 : decode b_R_tidy 72 = .ok (.goto 4, 3) := by decide +kernel
theorem d_R_tidy_75 : decode b_R_tidy 75 = .ok (.iconst 0, 1) := by decide +kernel
theorem d_R_tidy_76 : decode b_R_tidy 76 = .ok (.iadd, 1) := by decide +kernel
theorem d_R_tidy_77 : decode b_R_tidy 77 = .ok (.istore_n 2, 1) := by decide +kernel
theorem d_R_tidy_78 : decode b_R_tidy 78 = .ok (.iinc 3 1, 3) := by decide +kernel
theorem d_R_tidy_81 : decode b_R_tidy 81 = .ok (.goto (-56), 3) := by decide +kernel
theorem d_R_tidy_84 : decode b_R_tidy 84 = .ok (.iload_n 2, 1) := by decide +kernel
theorem d_R_tidy_85 : decode b_R_tidy 85 = .ok (.ireturn, 1) := by decide +kernel
theorem d_R_wrong_0 : decode b_R_wrong 0 = .ok (.aload_n 0, 1) := by decide +kernel
theorem d_R_wrong_1 : decode b_R_wrong 1 = .ok (.iconst 0, 1) := by decide +kernel
theorem d_R_wrong_2 : decode b_R_wrong 2 = .ok (.putfield 20, 3) := by decide +kernel
theorem d_R_wrong_5 : decode b_R_wrong 5 = .ok (.iconst 0, 1) := by decide +kernel
theorem d_R_wrong_6 : decode b_R_wrong 6 = .ok (.ireturn, 1) := by decide +kernel
