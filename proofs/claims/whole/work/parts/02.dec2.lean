theorem dX11_randomChecks_72 : decode cX11_randomChecks 72 = .ok (.irem, 1) := by decide +kernel
theorem dX11_randomChecks_73 : decode cX11_randomChecks 73 = .ok (.iload 8, 2) := by decide +kernel
theorem dX11_randomChecks_75 : decode cX11_randomChecks 75 = .ok (.sipush 3375, 3) := by decide +kernel
theorem dX11_randomChecks_78 : decode cX11_randomChecks 78 = .ok (.idiv, 1) := by decide +kernel
theorem dX11_randomChecks_79 : decode cX11_randomChecks 79 = .ok (.bipush 15, 2) := by decide +kernel
theorem dX11_randomChecks_81 : decode cX11_randomChecks 81 = .ok (.irem, 1) := by decide +kernel
theorem dX11_randomChecks_82 : decode cX11_randomChecks 82 = .ok (.invokevirtual 188, 3) := by decide +kernel
theorem dX11_randomChecks_85 : decode cX11_randomChecks 85 = .ok (.ifCond .eq 6, 3) := by decide +kernel
theorem dX11_randomChecks_88 : decode cX11_randomChecks 88 = .ok (.iinc 6 1, 3) := by decide +kernel
theorem dX11_randomChecks_91 : decode cX11_randomChecks 91 = .ok (.iinc 7 1, 3) := by decide +kernel
theorem dX11_randomChecks_94 : decode cX11_randomChecks 94 = .ok (.goto (-70), 3) := by decide +kernel
theorem dX11_randomChecks_97 : decode cX11_randomChecks 97 = .ok (.iload 6, 2) := by decide +kernel
theorem dX11_randomChecks_99 : decode cX11_randomChecks 99 = .ok (.ireturn, 1) := by decide +kernel
theorem dX11_save_0 : decode cX11_save 0 = .ok (.iload_n 1, 1) := by decide +kernel
theorem dX11_save_1 : decode cX11_save 1 = .ok (.invokestatic 248, 3) := by decide +kernel
theorem dX11_save_4 : decode cX11_save 4 = .ok (.ifCond .ne 5, 3) := by decide +kernel
theorem dX11_save_7 : decode cX11_save 7 = .ok (.iconst (-1), 1) := by decide +kernel
theorem dX11_save_8 : decode cX11_save 8 = .ok (.ireturn, 1) := by decide +kernel
theorem dX11_save_9 : decode cX11_save 9 = .ok (.aload_n 0, 1) := by decide +kernel
theorem dX11_save_10 : decode cX11_save 10 = .ok (.getfield 40, 3) := by decide +kernel
theorem dX11_save_13 : decode cX11_save 13 = .ok (.iload_n 1, 1) := by decide +kernel
theorem dX11_save_14 : decode cX11_save 14 = .ok (.aload_n 0, 1) := by decide +kernel
theorem dX11_save_15 : decode cX11_save 15 = .ok (.getfield 19, 3) := by decide +kernel
theorem dX11_save_18 : decode cX11_save 18 = .ok (.invokevirtual 251, 3) := by decide +kernel
theorem dX11_save_21 : decode cX11_save 21 = .ok (.aload_n 0, 1) := by decide +kernel
theorem dX11_save_22 : decode cX11_save 22 = .ok (.getfield 19, 3) := by decide +kernel
theorem dX11_save_25 : decode cX11_save 25 = .ok (.invokevirtual 155, 3) := by decide +kernel
theorem dX11_save_28 : decode cX11_save 28 = .ok (.ireturn, 1) := by decide +kernel
theorem dX11_restore_0 : decode cX11_restore 0 = .ok (.iload_n 1, 1) := by decide +kernel
theorem dX11_restore_1 : decode cX11_restore 1 = .ok (.invokestatic 248, 3) := by decide +kernel
theorem dX11_restore_4 : decode cX11_restore 4 = .ok (.ifCond .ne 5, 3) := by decide +kernel
theorem dX11_restore_7 : decode cX11_restore 7 = .ok (.iconst (-1), 1) := by decide +kernel
theorem dX11_restore_8 : decode cX11_restore 8 = .ok (.ireturn, 1) := by decide +kernel
theorem dX11_restore_9 : decode cX11_restore 9 = .ok (.aload_n 0, 1) := by decide +kernel
theorem dX11_restore_10 : decode cX11_restore 10 = .ok (.getfield 40, 3) := by decide +kernel
theorem dX11_restore_13 : decode cX11_restore 13 = .ok (.iload_n 1, 1) := by decide +kernel
theorem dX11_restore_14 : decode cX11_restore 14 = .ok (.invokevirtual 255, 3) := by decide +kernel
theorem dX11_restore_17 : decode cX11_restore 17 = .ok (.ifCond .ne 6, 3) := by decide +kernel
theorem dX11_restore_20 : decode cX11_restore 20 = .ok (.bipush (-3), 2) := by decide +kernel
theorem dX11_restore_22 : decode cX11_restore 22 = .ok (.ireturn, 1) := by decide +kernel
theorem dX11_restore_23 : decode cX11_restore 23 = .ok (.aload_n 0, 1) := by decide +kernel
theorem dX11_restore_24 : decode cX11_restore 24 = .ok (.getfield 40, 3) := by decide +kernel
theorem dX11_restore_27 : decode cX11_restore 27 = .ok (.iload_n 1, 1) := by decide +kernel
theorem dX11_restore_28 : decode cX11_restore 28 = .ok (.aload_n 0, 1) := by decide +kernel
theorem dX11_restore_29 : decode cX11_restore 29 = .ok (.getfield 19, 3) := by decide +kernel
theorem dX11_restore_32 : decode cX11_restore 32 = .ok (.invokevirtual 258, 3) := by decide +kernel
theorem dX11_restore_35 : decode cX11_restore 35 = .ok (.aload_n 0, 1) := by decide +kernel
theorem dX11_restore_36 : decode cX11_restore 36 = .ok (.getfield 33, 3) := by decide +kernel
theorem dX11_restore_39 : decode cX11_restore 39 = .ok (.invokevirtual 106, 3) := by decide +kernel
theorem dX11_restore_42 : decode cX11_restore 42 = .ok (.aload_n 0, 1) := by decide +kernel
theorem dX11_restore_43 : decode cX11_restore 43 = .ok (.getfield 19, 3) := by decide +kernel
theorem dX11_restore_46 : decode cX11_restore 46 = .ok (.invokevirtual 155, 3) := by decide +kernel
theorem dX11_restore_49 : decode cX11_restore 49 = .ok (.ireturn, 1) := by decide +kernel
theorem dX11_isSide_0 : decode cX11_isSide 0 = .ok (.iload_n 0, 1) := by decide +kernel
theorem dX11_isSide_1 : decode cX11_isSide 1 = .ok (.ifCond .eq 8, 3) := by decide +kernel
theorem dX11_isSide_4 : decode cX11_isSide 4 = .ok (.iload_n 0, 1) := by decide +kernel
theorem dX11_isSide_5 : decode cX11_isSide 5 = .ok (.iconst 1, 1) := by decide +kernel
theorem dX11_isSide_6 : decode cX11_isSide 6 = .ok (.if_icmp .ne 7, 3) := by decide +kernel
theorem dX11_isSide_9 : decode cX11_isSide 9 = .ok (.iconst 1, 1) := by decide +kernel
theorem dX11_isSide_10 : decode cX11_isSide 10 = .ok (.goto 4, 3) := by decide +kernel
theorem dX11_isSide_13 : decode cX11_isSide 13 = .ok (.iconst 0, 1) := by decide +kernel
theorem dX11_isSide_14 : decode cX11_isSide 14 = .ok (.ireturn, 1) := by decide +kernel
theorem dX11_isVariable_0 : decode cX11_isVariable 0 = .ok (.iload_n 0, 1) := by decide +kernel
theorem dX11_isVariable_1 : decode cX11_isVariable 1 = .ok (.ifCond .lt 12, 3) := by decide +kernel
theorem dX11_isVariable_4 : decode cX11_isVariable 4 = .ok (.iload_n 0, 1) := by decide +kernel
theorem dX11_isVariable_5 : decode cX11_isVariable 5 = .ok (.iconst 4, 1) := by decide +kernel
theorem dX11_isVariable_6 : decode cX11_isVariable 6 = .ok (.if_icmp .ge 7, 3) := by decide +kernel
theorem dX11_isVariable_9 : decode cX11_isVariable 9 = .ok (.iconst 1, 1) := by decide +kernel
theorem dX11_isVariable_10 : decode cX11_isVariable 10 = .ok (.goto 4, 3) := by decide +kernel
theorem dX11_isVariable_13 : decode cX11_isVariable 13 = .ok (.iconst 0, 1) := by decide +kernel
theorem dX11_isVariable_14 : decode cX11_isVariable 14 = .ok (.ireturn, 1) := by decide +kernel
theorem dX11_isWordNumber_0 : decode cX11_isWordNumber 0 = .ok (.iload_n 0, 1) := by decide +kernel
theorem dX11_isWordNumber_1 : decode cX11_isWordNumber 1 = .ok (.ifCond .lt 13, 3) := by decide +kernel
theorem dX11_isWordNumber_4 : decode cX11_isWordNumber 4 = .ok (.iload_n 0, 1) := by decide +kernel
theorem dX11_isWordNumber_5 : decode cX11_isWordNumber 5 = .ok (.bipush 62, 2) := by decide +kernel
theorem dX11_isWordNumber_7 : decode cX11_isWordNumber 7 = .ok (.if_icmp .gt 7, 3) := by decide +kernel
theorem dX11_isWordNumber_10 : decode cX11_isWordNumber 10 = .ok (.iconst 1, 1) := by decide +kernel
theorem dX11_isWordNumber_11 : decode cX11_isWordNumber 11 = .ok (.goto 4, 3) := by decide +kernel
theorem dX11_isWordNumber_14 : decode cX11_isWordNumber 14 = .ok (.iconst 0, 1) := by decide +kernel
theorem dX11_isWordNumber_15 : decode cX11_isWordNumber 15 = .ok (.ireturn, 1) := by decide +kernel
theorem dX11_holdsFor_0 : decode cX11_holdsFor 0 = .ok (.aload_n 0, 1) := by decide +kernel
theorem dX11_holdsFor_1 : decode cX11_holdsFor 1 = .ok (.getfield 47, 3) := by decide +kernel
theorem dX11_holdsFor_4 : decode cX11_holdsFor 4 = .ok (.iconst 0, 1) := by decide +kernel
theorem dX11_holdsFor_5 : decode cX11_holdsFor 5 = .ok (.invokestatic 135, 3) := by decide +kernel
theorem dX11_holdsFor_8 : decode cX11_holdsFor 8 = .ok (.iload_n 1, 1) := by decide +kernel
theorem dX11_holdsFor_9 : decode cX11_holdsFor 9 = .ok (.invokevirtual 261, 3) := by decide +kernel
theorem dX11_holdsFor_12 : decode cX11_holdsFor 12 = .ok (.aload_n 0, 1) := by decide +kernel
theorem dX11_holdsFor_13 : decode cX11_holdsFor 13 = .ok (.getfield 47, 3) := by decide +kernel
theorem dX11_holdsFor_16 : decode cX11_holdsFor 16 = .ok (.iconst 1, 1) := by decide +kernel
theorem dX11_holdsFor_17 : decode cX11_holdsFor 17 = .ok (.invokestatic 135, 3) := by decide +kernel
theorem dX11_holdsFor_20 : decode cX11_holdsFor 20 = .ok (.iload_n 2, 1) := by decide +kernel
theorem dX11_holdsFor_21 : decode cX11_holdsFor 21 = .ok (.invokevirtual 261, 3) := by decide +kernel
theorem dX11_holdsFor_24 : decode cX11_holdsFor 24 = .ok (.aload_n 0, 1) := by decide +kernel
theorem dX11_holdsFor_25 : decode cX11_holdsFor 25 = .ok (.getfield 47, 3) := by decide +kernel
theorem dX11_holdsFor_28 : decode cX11_holdsFor 28 = .ok (.iconst 2, 1) := by decide +kernel
theorem dX11_holdsFor_29 : decode cX11_holdsFor 29 = .ok (.invokestatic 135, 3) := by decide +kernel
theorem dX11_holdsFor_32 : decode cX11_holdsFor 32 = .ok (.iload_n 3, 1) := by decide +kernel
theorem dX11_holdsFor_33 : decode cX11_holdsFor 33 = .ok (.invokevirtual 261, 3) := by decide +kernel
theorem dX11_holdsFor_36 : decode cX11_holdsFor 36 = .ok (.aload_n 0, 1) := by decide +kernel
theorem dX11_holdsFor_37 : decode cX11_holdsFor 37 = .ok (.getfield 47, 3) := by decide +kernel
theorem dX11_holdsFor_40 : decode cX11_holdsFor 40 = .ok (.iconst 3, 1) := by decide +kernel
theorem dX11_holdsFor_41 : decode cX11_holdsFor 41 = .ok (.invokestatic 135, 3) := by decide +kernel
theorem dX11_holdsFor_44 : decode cX11_holdsFor 44 = .ok (.iload 4, 2) := by decide +kernel
theorem dX11_holdsFor_46 : decode cX11_holdsFor 46 = .ok (.invokevirtual 261, 3) := by decide +kernel
theorem dX11_holdsFor_49 : decode cX11_holdsFor 49 = .ok (.iconst 0, 1) := by decide +kernel
theorem dX11_holdsFor_50 : decode cX11_holdsFor 50 = .ok (.istore 5, 2) := by decide +kernel
theorem dX11_holdsFor_52 : decode cX11_holdsFor 52 = .ok (.iload 5, 2) := by decide +kernel
theorem dX11_holdsFor_54 : decode cX11_holdsFor 54 = .ok (.iconst 4, 1) := by decide +kernel
theorem dX11_holdsFor_55 : decode cX11_holdsFor 55 = .ok (.if_icmp .ge 35, 3) := by decide +kernel
theorem dX11_holdsFor_58 : decode cX11_holdsFor 58 = .ok (.aload_n 0, 1) := by decide +kernel
theorem dX11_holdsFor_59 : decode cX11_holdsFor 59 = .ok (.getfield 26, 3) := by decide +kernel
theorem dX11_holdsFor_62 : decode cX11_holdsFor 62 = .ok (.iload 5, 2) := by decide +kernel
theorem dX11_holdsFor_64 : decode cX11_holdsFor 64 = .ok (.aload_n 0, 1) := by decide +kernel
theorem dX11_holdsFor_65 : decode cX11_holdsFor 65 = .ok (.getfield 47, 3) := by decide +kernel
theorem dX11_holdsFor_68 : decode cX11_holdsFor 68 = .ok (.iload 5, 2) := by decide +kernel
theorem dX11_holdsFor_70 : decode cX11_holdsFor 70 = .ok (.invokestatic 135, 3) := by decide +kernel
theorem dX11_holdsFor_73 : decode cX11_holdsFor 73 = .ok (.invokevirtual 226, 3) := by decide +kernel
theorem dX11_holdsFor_76 : decode cX11_holdsFor 76 = .ok (.invokevirtual 265, 3) := by decide +kernel
theorem dX11_holdsFor_79 : decode cX11_holdsFor 79 = .ok (.ifCond .ne 5, 3) := by decide +kernel
theorem dX11_holdsFor_82 : decode cX11_holdsFor 82 = .ok (.iconst 0, 1) := by decide +kernel
theorem dX11_holdsFor_83 : decode cX11_holdsFor 83 = .ok (.ireturn, 1) := by decide +kernel
theorem dX11_holdsFor_84 : decode cX11_holdsFor 84 = .ok (.iinc 5 1, 3) := by decide +kernel
theorem dX11_holdsFor_87 : decode cX11_holdsFor 87 = .ok (.goto (-35), 3) := by decide +kernel
theorem dX11_holdsFor_90 : decode cX11_holdsFor 90 = .ok (.aload_n 0, 1) := by decide +kernel
theorem dX11_holdsFor_91 : decode cX11_holdsFor 91 = .ok (.getfield 47, 3) := by decide +kernel
theorem dX11_holdsFor_94 : decode cX11_holdsFor 94 = .ok (.aload_n 0, 1) := by decide +kernel
theorem dX11_holdsFor_95 : decode cX11_holdsFor 95 = .ok (.getfield 19, 3) := by decide +kernel
theorem dX11_holdsFor_98 : decode cX11_holdsFor 98 = .ok (.getfield 148, 3) := by decide +kernel
theorem dX11_holdsFor_101 : decode cX11_holdsFor 101 = .ok (.aload_n 0, 1) := by decide +kernel
theorem dX11_holdsFor_102 : decode cX11_holdsFor 102 = .ok (.getfield 19, 3) := by decide +kernel
theorem dX11_holdsFor_105 : decode cX11_holdsFor 105 = .ok (.getfield 269, 3) := by decide +kernel
theorem dX11_holdsFor_108 : decode cX11_holdsFor 108 = .ok (.invokevirtual 272, 3) := by decide +kernel
theorem dX11_holdsFor_111 : decode cX11_holdsFor 111 = .ok (.ireturn, 1) := by decide +kernel
theorem dX12_init_0 : decode cX12_init 0 = .ok (.aload_n 0, 1) := by decide +kernel
theorem dX12_init_1 : decode cX12_init 1 = .ok (.invokespecial 1, 3) := by decide +kernel
theorem dX12_init_4 : decode cX12_init 4 = .ok (.aload_n 0, 1) := by decide +kernel
theorem dX12_init_5 : decode cX12_init 5 = .ok (.bipush 40, 2) := by decide +kernel
theorem dX12_init_7 : decode cX12_init 7 = .ok (.newarray .int, 2) := by decide +kernel
theorem dX12_init_9 : decode cX12_init 9 = .ok (.putfield 7, 3) := by decide +kernel
theorem dX12_init_12 : decode cX12_init 12 = .ok (.aload_n 0, 1) := by decide +kernel
theorem dX12_init_13 : decode cX12_init 13 = .ok (.bipush 26, 2) := by decide +kernel
theorem dX12_init_15 : decode cX12_init 15 = .ok (.newarray .int, 2) := by decide +kernel
theorem dX12_init_17 : decode cX12_init 17 = .ok (.putfield 13, 3) := by decide +kernel
theorem dX12_init_20 : decode cX12_init 20 = .ok (.aload_n 0, 1) := by decide +kernel
theorem dX12_init_21 : decode cX12_init 21 = .ok (.bipush 26, 2) := by decide +kernel
theorem dX12_init_23 : decode cX12_init 23 = .ok (.newarray .int, 2) := by decide +kernel
theorem dX12_init_25 : decode cX12_init 25 = .ok (.putfield 16, 3) := by decide +kernel
theorem dX12_init_28 : decode cX12_init 28 = .ok (.aload_n 0, 1) := by decide +kernel
theorem dX12_init_29 : decode cX12_init 29 = .ok (.bipush 26, 2) := by decide +kernel
theorem dX12_init_31 : decode cX12_init 31 = .ok (.newarray .int, 2) := by decide +kernel
theorem dX12_init_33 : decode cX12_init 33 = .ok (.putfield 19, 3) := by decide +kernel
theorem dX12_init_36 : decode cX12_init 36 = .ok (.aload_n 0, 1) := by decide +kernel
theorem dX12_init_37 : decode cX12_init 37 = .ok (.sipush 364, 3) := by decide +kernel
theorem dX12_init_40 : decode cX12_init 40 = .ok (.newarray .int, 2) := by decide +kernel
theorem dX12_init_42 : decode cX12_init 42 = .ok (.putfield 22, 3) := by decide +kernel
theorem dX12_init_45 : decode cX12_init 45 = .ok (.aload_n 0, 1) := by decide +kernel
theorem dX12_init_46 : decode cX12_init 46 = .ok (.bipush 52, 2) := by decide +kernel
theorem dX12_init_48 : decode cX12_init 48 = .ok (.newarray .int, 2) := by decide +kernel
theorem dX12_init_50 : decode cX12_init 50 = .ok (.putfield 25, 3) := by decide +kernel
theorem dX12_init_53 : decode cX12_init 53 = .ok (.aload_n 0, 1) := by decide +kernel
theorem dX12_init_54 : decode cX12_init 54 = .ok (.iconst 2, 1) := by decide +kernel
theorem dX12_init_55 : decode cX12_init 55 = .ok (.newarray .boolean, 2) := by decide +kernel
theorem dX12_init_57 : decode cX12_init 57 = .ok (.putfield 28, 3) := by decide +kernel
theorem dX12_init_60 : decode cX12_init 60 = .ok (.aload_n 0, 1) := by decide +kernel
theorem dX12_init_61 : decode cX12_init 61 = .ok (.bipush 12, 2) := by decide +kernel
theorem dX12_init_63 : decode cX12_init 63 = .ok (.newarray .int, 2) := by decide +kernel
theorem dX12_init_65 : decode cX12_init 65 = .ok (.putfield 32, 3) := by decide +kernel
theorem dX12_init_68 : decode cX12_init 68 = .ok (.aload_n 0, 1) := by decide +kernel
theorem dX12_init_69 : decode cX12_init 69 = .ok (.bipush 12, 2) := by decide +kernel
theorem dX12_init_71 : decode cX12_init 71 = .ok (.newarray .int, 2) := by decide +kernel
theorem dX12_init_73 : decode cX12_init 73 = .ok (.putfield 35, 3) := by decide +kernel
theorem dX12_init_76 : decode cX12_init 76 = .ok (.aload_n 0, 1) := by decide +kernel
theorem dX12_init_77 : decode cX12_init 77 = .ok (.bipush 120, 2) := by decide +kernel
theorem dX12_init_79 : decode cX12_init 79 = .ok (.newarray .int, 2) := by decide +kernel
theorem dX12_init_81 : decode cX12_init 81 = .ok (.putfield 38, 3) := by decide +kernel
theorem dX12_init_84 : decode cX12_init 84 = .ok (.aload_n 0, 1) := by decide +kernel
theorem dX12_init_85 : decode cX12_init 85 = .ok (.iconst 2, 1) := by decide +kernel
theorem dX12_init_86 : decode cX12_init 86 = .ok (.newarray .int, 2) := by decide +kernel
theorem dX12_init_88 : decode cX12_init 88 = .ok (.putfield 41, 3) := by decide +kernel
theorem dX12_init_91 : decode cX12_init 91 = .ok (.aload_n 0, 1) := by decide +kernel
theorem dX12_init_92 : decode cX12_init 92 = .ok (.iconst 4, 1) := by decide +kernel
theorem dX12_init_93 : decode cX12_init 93 = .ok (.newarray .int, 2) := by decide +kernel
theorem dX12_init_95 : decode cX12_init 95 = .ok (.putfield 44, 3) := by decide +kernel
theorem dX12_init_98 : decode cX12_init 98 = .ok (.aload_n 0, 1) := by decide +kernel
theorem dX12_init_99 : decode cX12_init 99 = .ok (.iconst 4, 1) := by decide +kernel
theorem dX12_init_100 : decode cX12_init 100 = .ok (.newarray .int, 2) := by decide +kernel
theorem dX12_init_102 : decode cX12_init 102 = .ok (.putfield 47, 3) := by decide +kernel
theorem dX12_init_105 : decode cX12_init 105 = .ok (.aload_n 0, 1) := by decide +kernel
theorem dX12_init_106 : decode cX12_init 106 = .ok (.sipush 5200, 3) := by decide +kernel
theorem dX12_init_109 : decode cX12_init 109 = .ok (.newarray .int, 2) := by decide +kernel
theorem dX12_init_111 : decode cX12_init 111 = .ok (.putfield 50, 3) := by decide +kernel
theorem dX12_init_114 : decode cX12_init 114 = .ok (.aload_n 0, 1) := by decide +kernel
theorem dX12_init_115 : decode cX12_init 115 = .ok (.sipush 200, 3) := by decide +kernel
theorem dX12_init_118 : decode cX12_init 118 = .ok (.newarray .int, 2) := by decide +kernel
theorem dX12_init_120 : decode cX12_init 120 = .ok (.putfield 53, 3) := by decide +kernel
theorem dX12_init_123 : decode cX12_init 123 = .ok (.aload_n 0, 1) := by decide +kernel
theorem dX12_init_124 : decode cX12_init 124 = .ok (.sipush 200, 3) := by decide +kernel
theorem dX12_init_127 : decode cX12_init 127 = .ok (.newarray .int, 2) := by decide +kernel
theorem dX12_init_129 : decode cX12_init 129 = .ok (.putfield 56, 3) := by decide +kernel
theorem dX12_init_132 : decode cX12_init 132 = .ok (.aload_n 0, 1) := by decide +kernel
theorem dX12_init_133 : decode cX12_init 133 = .ok (.bipush 26, 2) := by decide +kernel
theorem dX12_init_135 : decode cX12_init 135 = .ok (.newarray .int, 2) := by decide +kernel
theorem dX12_init_137 : decode cX12_init 137 = .ok (.putfield 59, 3) := by decide +kernel
theorem dX12_init_140 : decode cX12_init 140 = .ok (.aload_n 0, 1) := by decide +kernel
theorem dX12_init_141 : decode cX12_init 141 = .ok (.sipush 200, 3) := by decide +kernel
theorem dX12_init_144 : decode cX12_init 144 = .ok (.newarray .int, 2) := by decide +kernel
theorem dX12_init_146 : decode cX12_init 146 = .ok (.putfield 62, 3) := by decide +kernel
theorem dX12_init_149 : decode cX12_init 149 = .ok (.aload_n 0, 1) := by decide +kernel
theorem dX12_init_150 : decode cX12_init 150 = .ok (.sipush 240, 3) := by decide +kernel
theorem dX12_init_153 : decode cX12_init 153 = .ok (.newarray .int, 2) := by decide +kernel
theorem dX12_init_155 : decode cX12_init 155 = .ok (.putfield 65, 3) := by decide +kernel
theorem dX12_init_158 : decode cX12_init 158 = .ok (.aload_n 0, 1) := by decide +kernel
theorem dX12_init_159 : decode cX12_init 159 = .ok (.iconst 4, 1) := by decide +kernel
theorem dX12_init_160 : decode cX12_init 160 = .ok (.newarray .int, 2) := by decide +kernel
theorem dX12_init_162 : decode cX12_init 162 = .ok (.putfield 68, 3) := by decide +kernel
theorem dX12_init_165 : decode cX12_init 165 = .ok (.aload_n 0, 1) := by decide +kernel
theorem dX12_init_166 : decode cX12_init 166 = .ok (.bipush 60, 2) := by decide +kernel
theorem dX12_init_168 : decode cX12_init 168 = .ok (.newarray .int, 2) := by decide +kernel
theorem dX12_init_170 : decode cX12_init 170 = .ok (.putfield 71, 3) := by decide +kernel
theorem dX12_init_173 : decode cX12_init 173 = .ok (.aload_n 0, 1) := by decide +kernel
theorem dX12_init_174 : decode cX12_init 174 = .ok (.bipush 26, 2) := by decide +kernel
theorem dX12_init_176 : decode cX12_init 176 = .ok (.newarray .int, 2) := by decide +kernel
theorem dX12_init_178 : decode cX12_init 178 = .ok (.putfield 74, 3) := by decide +kernel
theorem dX12_init_181 : decode cX12_init 181 = .ok (.aload_n 0, 1) := by decide +kernel
theorem dX12_init_182 : decode cX12_init 182 = .ok (.iconst 0, 1) := by decide +kernel
theorem dX12_init_183 : decode cX12_init 183 = .ok (.putfield 77, 3) := by decide +kernel
theorem dX12_init_186 : decode cX12_init 186 = .ok (.return_, 1) := by decide +kernel
theorem dX12_copy_0 : decode cX12_copy 0 = .ok (.iconst 0, 1) := by decide +kernel
theorem dX12_copy_1 : decode cX12_copy 1 = .ok (.istore_n 2, 1) := by decide +kernel
theorem dX12_copy_2 : decode cX12_copy 2 = .ok (.iload_n 2, 1) := by decide +kernel
theorem dX12_copy_3 : decode cX12_copy 3 = .ok (.bipush 26, 2) := by decide +kernel
theorem dX12_copy_5 : decode cX12_copy 5 = .ok (.if_icmp .ge 15, 3) := by decide +kernel
theorem dX12_copy_8 : decode cX12_copy 8 = .ok (.aload_n 1, 1) := by decide +kernel
theorem dX12_copy_9 : decode cX12_copy 9 = .ok (.iload_n 2, 1) := by decide +kernel
theorem dX12_copy_10 : decode cX12_copy 10 = .ok (.aload_n 0, 1) := by decide +kernel
theorem dX12_copy_11 : decode cX12_copy 11 = .ok (.iload_n 2, 1) := by decide +kernel
theorem dX12_copy_12 : decode cX12_copy 12 = .ok (.iaload, 1) := by decide +kernel
theorem dX12_copy_13 : decode cX12_copy 13 = .ok (.iastore, 1) := by decide +kernel
theorem dX12_copy_14 : decode cX12_copy 14 = .ok (.iinc 2 1, 3) := by decide +kernel
theorem dX12_copy_17 : decode cX12_copy 17 = .ok (.goto (-15), 3) := by decide +kernel
theorem dX12_copy_20 : decode cX12_copy 20 = .ok (.return_, 1) := by decide +kernel
theorem dX12_in_0 : decode cX12_in 0 = .ok (.lload_n 0, 1) := by decide +kernel
theorem dX12_in_1 : decode cX12_in 1 = .ok (.lload_n 2, 1) := by decide +kernel
theorem dX12_in_2 : decode cX12_in 2 = .ok (.lcmp, 1) := by decide +kernel
theorem dX12_in_3 : decode cX12_in 3 = .ok (.ifCond .lt 14, 3) := by decide +kernel
theorem dX12_in_6 : decode cX12_in 6 = .ok (.lload_n 0, 1) := by decide +kernel
theorem dX12_in_7 : decode cX12_in 7 = .ok (.lload 4, 2) := by decide +kernel
theorem dX12_in_9 : decode cX12_in 9 = .ok (.lcmp, 1) := by decide +kernel
theorem dX12_in_10 : decode cX12_in 10 = .ok (.ifCond .gt 7, 3) := by decide +kernel
theorem dX12_in_13 : decode cX12_in 13 = .ok (.iconst 1, 1) := by decide +kernel
theorem dX12_in_14 : decode cX12_in 14 = .ok (.goto 4, 3) := by decide +kernel
theorem dX12_in_17 : decode cX12_in 17 = .ok (.iconst 0, 1) := by decide +kernel
theorem dX12_in_18 : decode cX12_in 18 = .ok (.ireturn, 1) := by decide +kernel
theorem dX12_at_0 : decode cX12_at 0 = .ok (.iconst 2, 1) := by decide +kernel
theorem dX12_at_1 : decode cX12_at 1 = .ok (.bipush 12, 2) := by decide +kernel
theorem dX12_at_3 : decode cX12_at 3 = .ok (.iload_n 0, 1) := by decide +kernel
theorem dX12_at_4 : decode cX12_at 4 = .ok (.imul, 1) := by decide +kernel
theorem dX12_at_5 : decode cX12_at 5 = .ok (.iadd, 1) := by decide +kernel
theorem dX12_at_6 : decode cX12_at 6 = .ok (.iload_n 1, 1) := by decide +kernel
theorem dX12_at_7 : decode cX12_at 7 = .ok (.iadd, 1) := by decide +kernel
theorem dX12_at_8 : decode cX12_at 8 = .ok (.ireturn, 1) := by decide +kernel
theorem dX12_symbolOf_0 : decode cX12_symbolOf 0 = .ok (.iload_n 0, 1) := by decide +kernel
theorem dX12_symbolOf_1 : decode cX12_symbolOf 1 = .ok (.bipush 97, 2) := by decide +kernel
theorem dX12_symbolOf_3 : decode cX12_symbolOf 3 = .ok (.if_icmp .eq 9, 3) := by decide +kernel
theorem dX12_symbolOf_6 : decode cX12_symbolOf 6 = .ok (.iload_n 0, 1) := by decide +kernel
theorem dX12_symbolOf_7 : decode cX12_symbolOf 7 = .ok (.bipush 98, 2) := by decide +kernel
theorem dX12_symbolOf_9 : decode cX12_symbolOf 9 = .ok (.if_icmp .ne 10, 3) := by decide +kernel
theorem dX12_symbolOf_12 : decode cX12_symbolOf 12 = .ok (.iload_n 0, 1) := by decide +kernel
theorem dX12_symbolOf_13 : decode cX12_symbolOf 13 = .ok (.bipush 97, 2) := by decide +kernel
theorem dX12_symbolOf_15 : decode cX12_symbolOf 15 = .ok (.isub, 1) := by decide +kernel
theorem dX12_symbolOf_16 : decode cX12_symbolOf 16 = .ok (.goto 26, 3) := by decide +kernel
theorem dX12_symbolOf_19 : decode cX12_symbolOf 19 = .ok (.iload_n 0, 1) := by decide +kernel
theorem dX12_symbolOf_20 : decode cX12_symbolOf 20 = .ok (.i2l, 1) := by decide +kernel
theorem dX12_symbolOf_21 : decode cX12_symbolOf 21 = .ok (.ldc2_w 81, 3) := by decide +kernel
theorem dX12_symbolOf_24 : decode cX12_symbolOf 24 = .ok (.ldc2_w 83, 3) := by decide +kernel
theorem dX12_symbolOf_27 : decode cX12_symbolOf 27 = .ok (.invokestatic 85, 3) := by decide +kernel
theorem dX12_symbolOf_30 : decode cX12_symbolOf 30 = .ok (.ifCond .eq 10, 3) := by decide +kernel
theorem dX12_symbolOf_33 : decode cX12_symbolOf 33 = .ok (.iload_n 0, 1) := by decide +kernel
theorem dX12_symbolOf_34 : decode cX12_symbolOf 34 = .ok (.bipush 85, 2) := by decide +kernel
theorem dX12_symbolOf_36 : decode cX12_symbolOf 36 = .ok (.isub, 1) := by decide +kernel
theorem dX12_symbolOf_37 : decode cX12_symbolOf 37 = .ok (.goto 5, 3) := by decide +kernel
theorem dX12_symbolOf_40 : decode cX12_symbolOf 40 = .ok (.bipush (-9), 2) := by decide +kernel
theorem dX12_symbolOf_42 : decode cX12_symbolOf 42 = .ok (.ireturn, 1) := by decide +kernel
theorem dX12_charOf_0 : decode cX12_charOf 0 = .ok (.iload_n 0, 1) := by decide +kernel
theorem dX12_charOf_1 : decode cX12_charOf 1 = .ok (.iconst 2, 1) := by decide +kernel
theorem dX12_charOf_2 : decode cX12_charOf 2 = .ok (.if_icmp .ge 10, 3) := by decide +kernel
theorem dX12_charOf_5 : decode cX12_charOf 5 = .ok (.bipush 97, 2) := by decide +kernel
theorem dX12_charOf_7 : decode cX12_charOf 7 = .ok (.iload_n 0, 1) := by decide +kernel
theorem dX12_charOf_8 : decode cX12_charOf 8 = .ok (.iadd, 1) := by decide +kernel
theorem dX12_charOf_9 : decode cX12_charOf 9 = .ok (.goto 7, 3) := by decide +kernel
theorem dX12_charOf_12 : decode cX12_charOf 12 = .ok (.bipush 85, 2) := by decide +kernel
theorem dX12_charOf_14 : decode cX12_charOf 14 = .ok (.iload_n 0, 1) := by decide +kernel
theorem dX12_charOf_15 : decode cX12_charOf 15 = .ok (.iadd, 1) := by decide +kernel
theorem dX12_charOf_16 : decode cX12_charOf 16 = .ok (.ireturn, 1) := by decide +kernel
theorem dX12_isVariable_0 : decode cX12_isVariable 0 = .ok (.iload_n 0, 1) := by decide +kernel
theorem dX12_isVariable_1 : decode cX12_isVariable 1 = .ok (.i2l, 1) := by decide +kernel
theorem dX12_isVariable_2 : decode cX12_isVariable 2 = .ok (.lconst 0, 1) := by decide +kernel
theorem dX12_isVariable_3 : decode cX12_isVariable 3 = .ok (.ldc2_w 89, 3) := by decide +kernel
theorem dX12_isVariable_6 : decode cX12_isVariable 6 = .ok (.invokestatic 85, 3) := by decide +kernel
theorem dX12_isVariable_9 : decode cX12_isVariable 9 = .ok (.ireturn, 1) := by decide +kernel
theorem dX12_append_0 : decode cX12_append 0 = .ok (.iload_n 1, 1) := by decide +kernel
theorem dX12_append_1 : decode cX12_append 1 = .ok (.i2l, 1) := by decide +kernel
theorem dX12_append_2 : decode cX12_append 2 = .ok (.lconst 0, 1) := by decide +kernel
theorem dX12_append_3 : decode cX12_append 3 = .ok (.ldc2_w 91, 3) := by decide +kernel
theorem dX12_append_6 : decode cX12_append 6 = .ok (.invokestatic 85, 3) := by decide +kernel
theorem dX12_append_9 : decode cX12_append 9 = .ok (.ifCond .ne 6, 3) := by decide +kernel
theorem dX12_append_12 : decode cX12_append 12 = .ok (.bipush (-2), 2) := by decide +kernel
theorem dX12_append_14 : decode cX12_append 14 = .ok (.ireturn, 1) := by decide +kernel
theorem dX12_append_15 : decode cX12_append 15 = .ok (.aload_n 0, 1) := by decide +kernel
theorem dX12_append_16 : decode cX12_append 16 = .ok (.getfield 93, 3) := by decide +kernel
theorem dX12_append_19 : decode cX12_append 19 = .ok (.bipush 40, 2) := by decide +kernel
theorem dX12_append_21 : decode cX12_append 21 = .ok (.if_icmp .ne 6, 3) := by decide +kernel
theorem dX12_append_24 : decode cX12_append 24 = .ok (.bipush (-4), 2) := by decide +kernel
theorem dX12_append_26 : decode cX12_append 26 = .ok (.ireturn, 1) := by decide +kernel
theorem dX12_append_27 : decode cX12_append 27 = .ok (.aload_n 0, 1) := by decide +kernel
theorem dX12_append_28 : decode cX12_append 28 = .ok (.getfield 7, 3) := by decide +kernel
theorem dX12_append_31 : decode cX12_append 31 = .ok (.aload_n 0, 1) := by decide +kernel
theorem dX12_append_32 : decode cX12_append 32 = .ok (.getfield 93, 3) := by decide +kernel
theorem dX12_append_35 : decode cX12_append 35 = .ok (.iload_n 1, 1) := by decide +kernel
theorem dX12_append_36 : decode cX12_append 36 = .ok (.iastore, 1) := by decide +kernel
theorem dX12_append_37 : decode cX12_append 37 = .ok (.aload_n 0, 1) := by decide +kernel
theorem dX12_append_38 : decode cX12_append 38 = .ok (.dup, 1) := by decide +kernel
theorem dX12_append_39 : decode cX12_append 39 = .ok (.getfield 93, 3) := by decide +kernel
theorem dX12_append_42 : decode cX12_append 42 = .ok (.iconst 1, 1) := by decide +kernel
theorem dX12_append_43 : decode cX12_append 43 = .ok (.iadd, 1) := by decide +kernel
theorem dX12_append_44 : decode cX12_append 44 = .ok (.putfield 93, 3) := by decide +kernel
theorem dX12_append_47 : decode cX12_append 47 = .ok (.aload_n 0, 1) := by decide +kernel
theorem dX12_append_48 : decode cX12_append 48 = .ok (.getfield 93, 3) := by decide +kernel
theorem dX12_append_51 : decode cX12_append 51 = .ok (.ireturn, 1) := by decide +kernel
theorem dX12_clearText_0 : decode cX12_clearText 0 = .ok (.aload_n 0, 1) := by decide +kernel
theorem dX12_clearText_1 : decode cX12_clearText 1 = .ok (.getfield 93, 3) := by decide +kernel
theorem dX12_clearText_4 : decode cX12_clearText 4 = .ok (.istore_n 1, 1) := by decide +kernel
theorem dX12_clearText_5 : decode cX12_clearText 5 = .ok (.aload_n 0, 1) := by decide +kernel
theorem dX12_clearText_6 : decode cX12_clearText 6 = .ok (.iconst 0, 1) := by decide +kernel
theorem dX12_clearText_7 : decode cX12_clearText 7 = .ok (.putfield 93, 3) := by decide +kernel
theorem dX12_clearText_10 : decode cX12_clearText 10 = .ok (.iload_n 1, 1) := by decide +kernel
theorem dX12_clearText_11 : decode cX12_clearText 11 = .ok (.ireturn, 1) := by decide +kernel
theorem dX12_takeOfConstraint_0 : decode cX12_takeOfConstraint 0 = .ok (.iconst 3, 1) := by decide +kernel
theorem dX12_takeOfConstraint_1 : decode cX12_takeOfConstraint 1 = .ok (.aload_n 0, 1) := by decide +kernel
theorem dX12_takeOfConstraint_2 : decode cX12_takeOfConstraint 2 = .ok (.getfield 96, 3) := by decide +kernel
theorem dX12_takeOfConstraint_5 : decode cX12_takeOfConstraint 5 = .ok (.imul, 1) := by decide +kernel
theorem dX12_takeOfConstraint_6 : decode cX12_takeOfConstraint 6 = .ok (.iload_n 1, 1) := by decide +kernel
theorem dX12_takeOfConstraint_7 : decode cX12_takeOfConstraint 7 = .ok (.iadd, 1) := by decide +kernel
theorem dX12_takeOfConstraint_8 : decode cX12_takeOfConstraint 8 = .ok (.iconst 1, 1) := by decide +kernel
theorem dX12_takeOfConstraint_9 : decode cX12_takeOfConstraint 9 = .ok (.isub, 1) := by decide +kernel
theorem dX12_takeOfConstraint_10 : decode cX12_takeOfConstraint 10 = .ok (.istore_n 3, 1) := by decide +kernel
theorem dX12_takeOfConstraint_11 : decode cX12_takeOfConstraint 11 = .ok (.iload_n 1, 1) := by decide +kernel
theorem dX12_takeOfConstraint_12 : decode cX12_takeOfConstraint 12 = .ok (.ifCond .ne 23, 3) := by decide +kernel
theorem dX12_takeOfConstraint_15 : decode cX12_takeOfConstraint 15 = .ok (.iload_n 2, 1) := by decide +kernel
theorem dX12_takeOfConstraint_16 : decode cX12_takeOfConstraint 16 = .ok (.bipush 59, 2) := by decide +kernel
theorem dX12_takeOfConstraint_18 : decode cX12_takeOfConstraint 18 = .ok (.if_icmp .ne 15, 3) := by decide +kernel
theorem dX12_takeOfConstraint_21 : decode cX12_takeOfConstraint 21 = .ok (.aload_n 0, 1) := by decide +kernel
theorem dX12_takeOfConstraint_22 : decode cX12_takeOfConstraint 22 = .ok (.getfield 96, 3) := by decide +kernel
theorem dX12_takeOfConstraint_25 : decode cX12_takeOfConstraint 25 = .ok (.iconst 4, 1) := by decide +kernel
theorem dX12_takeOfConstraint_26 : decode cX12_takeOfConstraint 26 = .ok (.if_icmp .ge 7, 3) := by decide +kernel
theorem dX12_takeOfConstraint_29 : decode cX12_takeOfConstraint 29 = .ok (.iconst 1, 1) := by decide +kernel
theorem dX12_takeOfConstraint_30 : decode cX12_takeOfConstraint 30 = .ok (.goto 4, 3) := by decide +kernel
theorem dX12_takeOfConstraint_33 : decode cX12_takeOfConstraint 33 = .ok (.iconst 0, 1) := by decide +kernel
theorem dX12_takeOfConstraint_34 : decode cX12_takeOfConstraint 34 = .ok (.ireturn, 1) := by decide +kernel
theorem dX12_takeOfConstraint_35 : decode cX12_takeOfConstraint 35 = .ok (.iload_n 1, 1) := by decide +kernel
theorem dX12_takeOfConstraint_36 : decode cX12_takeOfConstraint 36 = .ok (.iconst 1, 1) := by decide +kernel
theorem dX12_takeOfConstraint_37 : decode cX12_takeOfConstraint 37 = .ok (.if_icmp .ne 25, 3) := by decide +kernel
theorem dX12_takeOfConstraint_40 : decode cX12_takeOfConstraint 40 = .ok (.aload_n 0, 1) := by decide +kernel
theorem dX12_takeOfConstraint_41 : decode cX12_takeOfConstraint 41 = .ok (.getfield 35, 3) := by decide +kernel
theorem dX12_takeOfConstraint_44 : decode cX12_takeOfConstraint 44 = .ok (.iload_n 3, 1) := by decide +kernel
theorem dX12_takeOfConstraint_45 : decode cX12_takeOfConstraint 45 = .ok (.iload_n 2, 1) := by decide +kernel
theorem dX12_takeOfConstraint_46 : decode cX12_takeOfConstraint 46 = .ok (.bipush 87, 2) := by decide +kernel
theorem dX12_takeOfConstraint_48 : decode cX12_takeOfConstraint 48 = .ok (.isub, 1) := by decide +kernel
theorem dX12_takeOfConstraint_49 : decode cX12_takeOfConstraint 49 = .ok (.iastore, 1) := by decide +kernel
theorem dX12_takeOfConstraint_50 : decode cX12_takeOfConstraint 50 = .ok (.iload_n 2, 1) := by decide +kernel
theorem dX12_takeOfConstraint_51 : decode cX12_takeOfConstraint 51 = .ok (.i2l, 1) := by decide +kernel
theorem dX12_takeOfConstraint_52 : decode cX12_takeOfConstraint 52 = .ok (.ldc2_w 81, 3) := by decide +kernel
theorem dX12_takeOfConstraint_55 : decode cX12_takeOfConstraint 55 = .ok (.ldc2_w 83, 3) := by decide +kernel
theorem dX12_takeOfConstraint_58 : decode cX12_takeOfConstraint 58 = .ok (.invokestatic 85, 3) := by decide +kernel
theorem dX12_takeOfConstraint_61 : decode cX12_takeOfConstraint 61 = .ok (.ireturn, 1) := by decide +kernel
theorem dX12_takeOfConstraint_62 : decode cX12_takeOfConstraint 62 = .ok (.iload_n 1, 1) := by decide +kernel
theorem dX12_takeOfConstraint_63 : decode cX12_takeOfConstraint 63 = .ok (.iconst 2, 1) := by decide +kernel
theorem dX12_takeOfConstraint_64 : decode cX12_takeOfConstraint 64 = .ok (.if_icmp .ne 25, 3) := by decide +kernel
theorem dX12_takeOfConstraint_67 : decode cX12_takeOfConstraint 67 = .ok (.aload_n 0, 1) := by decide +kernel
theorem dX12_takeOfConstraint_68 : decode cX12_takeOfConstraint 68 = .ok (.getfield 35, 3) := by decide +kernel
theorem dX12_takeOfConstraint_71 : decode cX12_takeOfConstraint 71 = .ok (.iload_n 3, 1) := by decide +kernel
theorem dX12_takeOfConstraint_72 : decode cX12_takeOfConstraint 72 = .ok (.iload_n 2, 1) := by decide +kernel
theorem dX12_takeOfConstraint_73 : decode cX12_takeOfConstraint 73 = .ok (.bipush 60, 2) := by decide +kernel
theorem dX12_takeOfConstraint_75 : decode cX12_takeOfConstraint 75 = .ok (.isub, 1) := by decide +kernel
theorem dX12_takeOfConstraint_76 : decode cX12_takeOfConstraint 76 = .ok (.iastore, 1) := by decide +kernel
theorem dX12_takeOfConstraint_77 : decode cX12_takeOfConstraint 77 = .ok (.iload_n 2, 1) := by decide +kernel
theorem dX12_takeOfConstraint_78 : decode cX12_takeOfConstraint 78 = .ok (.i2l, 1) := by decide +kernel
theorem dX12_takeOfConstraint_79 : decode cX12_takeOfConstraint 79 = .ok (.ldc2_w 99, 3) := by decide +kernel
theorem dX12_takeOfConstraint_82 : decode cX12_takeOfConstraint 82 = .ok (.ldc2_w 101, 3) := by decide +kernel
theorem dX12_takeOfConstraint_85 : decode cX12_takeOfConstraint 85 = .ok (.invokestatic 85, 3) := by decide +kernel
theorem dX12_takeOfConstraint_88 : decode cX12_takeOfConstraint 88 = .ok (.ireturn, 1) := by decide +kernel
theorem dX12_takeOfConstraint_89 : decode cX12_takeOfConstraint 89 = .ok (.aload_n 0, 1) := by decide +kernel
theorem dX12_takeOfConstraint_90 : decode cX12_takeOfConstraint 90 = .ok (.getfield 35, 3) := by decide +kernel
theorem dX12_takeOfConstraint_93 : decode cX12_takeOfConstraint 93 = .ok (.iload_n 3, 1) := by decide +kernel
theorem dX12_takeOfConstraint_94 : decode cX12_takeOfConstraint 94 = .ok (.iload_n 2, 1) := by decide +kernel
theorem dX12_takeOfConstraint_95 : decode cX12_takeOfConstraint 95 = .ok (.bipush 48, 2) := by decide +kernel
theorem dX12_takeOfConstraint_97 : decode cX12_takeOfConstraint 97 = .ok (.isub, 1) := by decide +kernel
theorem dX12_takeOfConstraint_98 : decode cX12_takeOfConstraint 98 = .ok (.iastore, 1) := by decide +kernel
theorem dX12_takeOfConstraint_99 : decode cX12_takeOfConstraint 99 = .ok (.aload_n 0, 1) := by decide +kernel
theorem dX12_takeOfConstraint_100 : decode cX12_takeOfConstraint 100 = .ok (.dup, 1) := by decide +kernel
theorem dX12_takeOfConstraint_101 : decode cX12_takeOfConstraint 101 = .ok (.getfield 96, 3) := by decide +kernel
theorem dX12_takeOfConstraint_104 : decode cX12_takeOfConstraint 104 = .ok (.iconst 1, 1) := by decide +kernel
theorem dX12_takeOfConstraint_105 : decode cX12_takeOfConstraint 105 = .ok (.iadd, 1) := by decide +kernel
theorem dX12_takeOfConstraint_106 : decode cX12_takeOfConstraint 106 = .ok (.putfield 96, 3) := by decide +kernel
theorem dX12_takeOfConstraint_109 : decode cX12_takeOfConstraint 109 = .ok (.iload_n 2, 1) := by decide +kernel
theorem dX12_takeOfConstraint_110 : decode cX12_takeOfConstraint 110 = .ok (.i2l, 1) := by decide +kernel
theorem dX12_takeOfConstraint_111 : decode cX12_takeOfConstraint 111 = .ok (.ldc2_w 103, 3) := by decide +kernel
theorem dX12_takeOfConstraint_114 : decode cX12_takeOfConstraint 114 = .ok (.ldc2_w 105, 3) := by decide +kernel
theorem dX12_takeOfConstraint_117 : decode cX12_takeOfConstraint 117 = .ok (.invokestatic 85, 3) := by decide +kernel
theorem dX12_takeOfConstraint_120 : decode cX12_takeOfConstraint 120 = .ok (.ireturn, 1) := by decide +kernel
theorem dX12_readText_0 : decode cX12_readText 0 = .ok (.iconst 0, 1) := by decide +kernel
theorem dX12_readText_1 : decode cX12_readText 1 = .ok (.istore_n 1, 1) := by decide +kernel
theorem dX12_readText_2 : decode cX12_readText 2 = .ok (.iload_n 1, 1) := by decide +kernel
theorem dX12_readText_3 : decode cX12_readText 3 = .ok (.bipush 26, 2) := by decide +kernel
theorem dX12_readText_5 : decode cX12_readText 5 = .ok (.if_icmp .ge 16, 3) := by decide +kernel
theorem dX12_readText_8 : decode cX12_readText 8 = .ok (.aload_n 0, 1) := by decide +kernel
theorem dX12_readText_9 : decode cX12_readText 9 = .ok (.getfield 19, 3) := by decide +kernel
theorem dX12_readText_12 : decode cX12_readText 12 = .ok (.iload_n 1, 1) := by decide +kernel
theorem dX12_readText_13 : decode cX12_readText 13 = .ok (.iconst 0, 1) := by decide +kernel
theorem dX12_readText_14 : decode cX12_readText 14 = .ok (.iastore, 1) := by decide +kernel
theorem dX12_readText_15 : decode cX12_readText 15 = .ok (.iinc 1 1, 3) := by decide +kernel
theorem dX12_readText_18 : decode cX12_readText 18 = .ok (.goto (-16), 3) := by decide +kernel
theorem dX12_readText_21 : decode cX12_readText 21 = .ok (.aload_n 0, 1) := by decide +kernel
theorem dX12_readText_22 : decode cX12_readText 22 = .ok (.iconst 0, 1) := by decide +kernel
theorem dX12_readText_23 : decode cX12_readText 23 = .ok (.putfield 96, 3) := by decide +kernel
theorem dX12_readText_26 : decode cX12_readText 26 = .ok (.iconst 0, 1) := by decide +kernel
theorem dX12_readText_27 : decode cX12_readText 27 = .ok (.istore_n 1, 1) := by decide +kernel
theorem dX12_readText_28 : decode cX12_readText 28 = .ok (.iconst 0, 1) := by decide +kernel
theorem dX12_readText_29 : decode cX12_readText 29 = .ok (.istore_n 2, 1) := by decide +kernel
theorem dX12_readText_30 : decode cX12_readText 30 = .ok (.iconst 0, 1) := by decide +kernel
theorem dX12_readText_31 : decode cX12_readText 31 = .ok (.istore_n 3, 1) := by decide +kernel
theorem dX12_readText_32 : decode cX12_readText 32 = .ok (.iload_n 3, 1) := by decide +kernel
theorem dX12_readText_33 : decode cX12_readText 33 = .ok (.aload_n 0, 1) := by decide +kernel
theorem dX12_readText_34 : decode cX12_readText 34 = .ok (.getfield 93, 3) := by decide +kernel
theorem dX12_readText_37 : decode cX12_readText 37 = .ok (.if_icmp .ge 139, 3) := by decide +kernel
theorem dX12_readText_40 : decode cX12_readText 40 = .ok (.aload_n 0, 1) := by decide +kernel
theorem dX12_readText_41 : decode cX12_readText 41 = .ok (.getfield 7, 3) := by decide +kernel
theorem dX12_readText_44 : decode cX12_readText 44 = .ok (.iload_n 3, 1) := by decide +kernel
theorem dX12_readText_45 : decode cX12_readText 45 = .ok (.iaload, 1) := by decide +kernel
theorem dX12_readText_46 : decode cX12_readText 46 = .ok (.istore 4, 2) := by decide +kernel
theorem dX12_readText_48 : decode cX12_readText 48 = .ok (.iload 4, 2) := by decide +kernel
theorem dX12_readText_50 : decode cX12_readText 50 = .ok (.invokestatic 107, 3) := by decide +kernel
theorem dX12_readText_53 : decode cX12_readText 53 = .ok (.istore 5, 2) := by decide +kernel
theorem dX12_readText_55 : decode cX12_readText 55 = .ok (.iconst 1, 1) := by decide +kernel
theorem dX12_readText_56 : decode cX12_readText 56 = .ok (.istore 6, 2) := by decide +kernel
theorem dX12_readText_58 : decode cX12_readText 58 = .ok (.iload_n 1, 1) := by decide +kernel
theorem dX12_readText_59 : decode cX12_readText 59 = .ok (.iconst 2, 1) := by decide +kernel
theorem dX12_readText_60 : decode cX12_readText 60 = .ok (.if_icmp .ge 63, 3) := by decide +kernel
theorem dX12_readText_63 : decode cX12_readText 63 = .ok (.iload 5, 2) := by decide +kernel
theorem dX12_readText_65 : decode cX12_readText 65 = .ok (.bipush (-9), 2) := by decide +kernel
theorem dX12_readText_67 : decode cX12_readText 67 = .ok (.if_icmp .eq 56, 3) := by decide +kernel
theorem dX12_readText_70 : decode cX12_readText 70 = .ok (.aload_n 0, 1) := by decide +kernel
theorem dX12_readText_71 : decode cX12_readText 71 = .ok (.getfield 19, 3) := by decide +kernel
theorem dX12_readText_74 : decode cX12_readText 74 = .ok (.iload_n 1, 1) := by decide +kernel
theorem dX12_readText_75 : decode cX12_readText 75 = .ok (.iaload, 1) := by decide +kernel
theorem dX12_readText_76 : decode cX12_readText 76 = .ok (.bipush 8, 2) := by decide +kernel
theorem dX12_readText_78 : decode cX12_readText 78 = .ok (.if_icmp .ge 7, 3) := by decide +kernel
theorem dX12_readText_81 : decode cX12_readText 81 = .ok (.iconst 1, 1) := by decide +kernel
theorem dX12_readText_82 : decode cX12_readText 82 = .ok (.goto 4, 3) := by decide +kernel
theorem dX12_readText_85 : decode cX12_readText 85 = .ok (.iconst 0, 1) := by decide +kernel
theorem dX12_readText_86 : decode cX12_readText 86 = .ok (.istore 6, 2) := by decide +kernel
theorem dX12_readText_88 : decode cX12_readText 88 = .ok (.iload 6, 2) := by decide +kernel
theorem dX12_readText_90 : decode cX12_readText 90 = .ok (.ifCond .eq 73, 3) := by decide +kernel
theorem dX12_readText_93 : decode cX12_readText 93 = .ok (.aload_n 0, 1) := by decide +kernel
theorem dX12_readText_94 : decode cX12_readText 94 = .ok (.getfield 19, 3) := by decide +kernel
theorem dX12_readText_97 : decode cX12_readText 97 = .ok (.iload_n 1, 1) := by decide +kernel
theorem dX12_readText_98 : decode cX12_readText 98 = .ok (.aload_n 0, 1) := by decide +kernel
theorem dX12_readText_99 : decode cX12_readText 99 = .ok (.getfield 19, 3) := by decide +kernel
theorem dX12_readText_102 : decode cX12_readText 102 = .ok (.iload_n 1, 1) := by decide +kernel
theorem dX12_readText_103 : decode cX12_readText 103 = .ok (.iaload, 1) := by decide +kernel
theorem dX12_readText_104 : decode cX12_readText 104 = .ok (.invokestatic 111, 3) := by decide +kernel
theorem dX12_readText_107 : decode cX12_readText 107 = .ok (.iload 5, 2) := by decide +kernel
theorem dX12_readText_109 : decode cX12_readText 109 = .ok (.iastore, 1) := by decide +kernel
theorem dX12_readText_110 : decode cX12_readText 110 = .ok (.aload_n 0, 1) := by decide +kernel
theorem dX12_readText_111 : decode cX12_readText 111 = .ok (.getfield 19, 3) := by decide +kernel
theorem dX12_readText_114 : decode cX12_readText 114 = .ok (.iload_n 1, 1) := by decide +kernel
theorem dX12_readText_115 : decode cX12_readText 115 = .ok (.dup2, 1) := by decide +kernel
theorem dX12_readText_116 : decode cX12_readText 116 = .ok (.iaload, 1) := by decide +kernel
theorem dX12_readText_117 : decode cX12_readText 117 = .ok (.iconst 1, 1) := by decide +kernel
theorem dX12_readText_118 : decode cX12_readText 118 = .ok (.iadd, 1) := by decide +kernel
theorem dX12_readText_119 : decode cX12_readText 119 = .ok (.iastore, 1) := by decide +kernel
theorem dX12_readText_120 : decode cX12_readText 120 = .ok (.goto 43, 3) := by decide +kernel
theorem dX12_readText_123 : decode cX12_readText 123 = .ok (.iload_n 1, 1) := by decide +kernel
theorem dX12_readText_124 : decode cX12_readText 124 = .ok (.ifCond .ne 22, 3) := by decide +kernel
theorem dX12_readText_127 : decode cX12_readText 127 = .ok (.iload 4, 2) := by decide +kernel
theorem dX12_readText_129 : decode cX12_readText 129 = .ok (.bipush 61, 2) := by decide +kernel
theorem dX12_readText_131 : decode cX12_readText 131 = .ok (.if_icmp .ne 7, 3) := by decide +kernel
theorem dX12_readText_134 : decode cX12_readText 134 = .ok (.iconst 1, 1) := by decide +kernel
theorem dX12_readText_135 : decode cX12_readText 135 = .ok (.goto 4, 3) := by decide +kernel
theorem dX12_readText_138 : decode cX12_readText 138 = .ok (.iconst 0, 1) := by decide +kernel
theorem dX12_readText_139 : decode cX12_readText 139 = .ok (.istore 6, 2) := by decide +kernel
theorem dX12_readText_141 : decode cX12_readText 141 = .ok (.iconst 1, 1) := by decide +kernel
theorem dX12_readText_142 : decode cX12_readText 142 = .ok (.istore_n 1, 1) := by decide +kernel
theorem dX12_readText_143 : decode cX12_readText 143 = .ok (.goto 20, 3) := by decide +kernel
theorem dX12_readText_146 : decode cX12_readText 146 = .ok (.iconst 2, 1) := by decide +kernel
theorem dX12_readText_147 : decode cX12_readText 147 = .ok (.istore_n 1, 1) := by decide +kernel
theorem dX12_readText_148 : decode cX12_readText 148 = .ok (.aload_n 0, 1) := by decide +kernel
theorem dX12_readText_149 : decode cX12_readText 149 = .ok (.iload_n 2, 1) := by decide +kernel
theorem dX12_readText_150 : decode cX12_readText 150 = .ok (.iload 4, 2) := by decide +kernel
theorem dX12_readText_152 : decode cX12_readText 152 = .ok (.invokevirtual 115, 3) := by decide +kernel
theorem dX12_readText_155 : decode cX12_readText 155 = .ok (.istore 6, 2) := by decide +kernel
theorem dX12_readText_157 : decode cX12_readText 157 = .ok (.iload_n 2, 1) := by decide +kernel
theorem dX12_readText_158 : decode cX12_readText 158 = .ok (.iconst 1, 1) := by decide +kernel
theorem dX12_readText_159 : decode cX12_readText 159 = .ok (.iadd, 1) := by decide +kernel
theorem dX12_readText_160 : decode cX12_readText 160 = .ok (.iconst 4, 1) := by decide +kernel
theorem dX12_readText_161 : decode cX12_readText 161 = .ok (.irem, 1) := by decide +kernel
theorem dX12_readText_162 : decode cX12_readText 162 = .ok (.istore_n 2, 1) := by decide +kernel
theorem dX12_readText_163 : decode cX12_readText 163 = .ok (.iload 6, 2) := by decide +kernel
theorem dX12_readText_165 : decode cX12_readText 165 = .ok (.ifCond .ne 5, 3) := by decide +kernel
theorem dX12_readText_168 : decode cX12_readText 168 = .ok (.iload_n 3, 1) := by decide +kernel
theorem dX12_readText_169 : decode cX12_readText 169 = .ok (.ireturn, 1) := by decide +kernel
theorem dX12_readText_170 : decode cX12_readText 170 = .ok (.iinc 3 1, 3) := by decide +kernel
theorem dX12_readText_173 : decode cX12_readText 173 = .ok (.goto (-141), 3) := by decide +kernel
theorem dX12_readText_176 : decode cX12_readText 176 = .ok (.iload_n 1, 1) := by decide +kernel
theorem dX12_readText_177 : decode cX12_readText 177 = .ok (.ifCond .le 12, 3) := by decide +kernel
theorem dX12_readText_180 : decode cX12_readText 180 = .ok (.iload_n 2, 1) := by decide +kernel
theorem dX12_readText_181 : decode cX12_readText 181 = .ok (.ifCond .ne 8, 3) := by decide +kernel
theorem dX12_readText_184 : decode cX12_readText 184 = .ok (.bipush (-9), 2) := by decide +kernel
theorem dX12_readText_186 : decode cX12_readText 186 = .ok (.goto 7, 3) := by decide +kernel
theorem dX12_readText_189 : decode cX12_readText 189 = .ok (.aload_n 0, 1) := by decide +kernel
theorem dX12_readText_190 : decode cX12_readText 190 = .ok (.getfield 93, 3) := by decide +kernel
theorem dX12_readText_193 : decode cX12_readText 193 = .ok (.ireturn, 1) := by decide +kernel
theorem dX12_errorPosition_0 : decode cX12_errorPosition 0 = .ok (.aload_n 0, 1) := by decide +kernel
theorem dX12_errorPosition_1 : decode cX12_errorPosition 1 = .ok (.invokevirtual 119, 3) := by decide +kernel
theorem dX12_errorPosition_4 : decode cX12_errorPosition 4 = .ok (.ireturn, 1) := by decide +kernel
theorem dX12_load_0 : decode cX12_load 0 = .ok (.aload_n 0, 1) := by decide +kernel
theorem dX12_load_1 : decode cX12_load 1 = .ok (.invokevirtual 119, 3) := by decide +kernel
theorem dX12_load_4 : decode cX12_load 4 = .ok (.bipush (-9), 2) := by decide +kernel
theorem dX12_load_6 : decode cX12_load 6 = .ok (.if_icmp .eq 6, 3) := by decide +kernel
theorem dX12_load_9 : decode cX12_load 9 = .ok (.bipush (-3), 2) := by decide +kernel
theorem dX12_load_11 : decode cX12_load 11 = .ok (.ireturn, 1) := by decide +kernel
theorem dX12_load_12 : decode cX12_load 12 = .ok (.aload_n 0, 1) := by decide +kernel
theorem dX12_load_13 : decode cX12_load 13 = .ok (.getfield 19, 3) := by decide +kernel
theorem dX12_load_16 : decode cX12_load 16 = .ok (.aload_n 0, 1) := by decide +kernel
theorem dX12_load_17 : decode cX12_load 17 = .ok (.getfield 13, 3) := by decide +kernel
theorem dX12_load_20 : decode cX12_load 20 = .ok (.invokestatic 123, 3) := by decide +kernel
theorem dX12_load_23 : decode cX12_load 23 = .ok (.aload_n 0, 1) := by decide +kernel
theorem dX12_load_24 : decode cX12_load 24 = .ok (.aload_n 0, 1) := by decide +kernel
theorem dX12_load_25 : decode cX12_load 25 = .ok (.getfield 96, 3) := by decide +kernel
theorem dX12_load_28 : decode cX12_load 28 = .ok (.putfield 77, 3) := by decide +kernel
theorem dX12_load_31 : decode cX12_load 31 = .ok (.iconst 0, 1) := by decide +kernel
theorem dX12_load_32 : decode cX12_load 32 = .ok (.istore_n 1, 1) := by decide +kernel
theorem dX12_load_33 : decode cX12_load 33 = .ok (.iload_n 1, 1) := by decide +kernel
theorem dX12_load_34 : decode cX12_load 34 = .ok (.iconst 3, 1) := by decide +kernel
theorem dX12_load_35 : decode cX12_load 35 = .ok (.aload_n 0, 1) := by decide +kernel
theorem dX12_load_36 : decode cX12_load 36 = .ok (.getfield 77, 3) := by decide +kernel
theorem dX12_load_39 : decode cX12_load 39 = .ok (.imul, 1) := by decide +kernel
theorem dX12_load_40 : decode cX12_load 40 = .ok (.if_icmp .ge 21, 3) := by decide +kernel
theorem dX12_load_43 : decode cX12_load 43 = .ok (.aload_n 0, 1) := by decide +kernel
theorem dX12_load_44 : decode cX12_load 44 = .ok (.getfield 32, 3) := by decide +kernel
theorem dX12_load_47 : decode cX12_load 47 = .ok (.iload_n 1, 1) := by decide +kernel
theorem dX12_load_48 : decode cX12_load 48 = .ok (.aload_n 0, 1) := by decide +kernel
theorem dX12_load_49 : decode cX12_load 49 = .ok (.getfield 35, 3) := by decide +kernel
theorem dX12_load_52 : decode cX12_load 52 = .ok (.iload_n 1, 1) := by decide +kernel
theorem dX12_load_53 : decode cX12_load 53 = .ok (.iaload, 1) := by decide +kernel
theorem dX12_load_54 : decode cX12_load 54 = .ok (.iastore, 1) := by decide +kernel
theorem dX12_load_55 : decode cX12_load 55 = .ok (.iinc 1 1, 3) := by decide +kernel
theorem dX12_load_58 : decode cX12_load 58 = .ok (.goto (-25), 3) := by decide +kernel
theorem dX12_load_61 : decode cX12_load 61 = .ok (.aload_n 0, 1) := by decide +kernel
theorem dX12_load_62 : decode cX12_load 62 = .ok (.iconst 0, 1) := by decide +kernel
theorem dX12_load_63 : decode cX12_load 63 = .ok (.putfield 127, 3) := by decide +kernel
theorem dX12_load_66 : decode cX12_load 66 = .ok (.aload_n 0, 1) := by decide +kernel
theorem dX12_load_67 : decode cX12_load 67 = .ok (.getfield 28, 3) := by decide +kernel
theorem dX12_load_70 : decode cX12_load 70 = .ok (.iconst 0, 1) := by decide +kernel
theorem dX12_load_71 : decode cX12_load 71 = .ok (.iconst 0, 1) := by decide +kernel
theorem dX12_load_72 : decode cX12_load 72 = .ok (.bastore, 1) := by decide +kernel
theorem dX12_load_73 : decode cX12_load 73 = .ok (.aload_n 0, 1) := by decide +kernel
theorem dX12_load_74 : decode cX12_load 74 = .ok (.getfield 28, 3) := by decide +kernel
theorem dX12_load_77 : decode cX12_load 77 = .ok (.iconst 1, 1) := by decide +kernel
theorem dX12_load_78 : decode cX12_load 78 = .ok (.iconst 0, 1) := by decide +kernel
theorem dX12_load_79 : decode cX12_load 79 = .ok (.bastore, 1) := by decide +kernel
theorem dX12_load_80 : decode cX12_load 80 = .ok (.aload_n 0, 1) := by decide +kernel
theorem dX12_load_81 : decode cX12_load 81 = .ok (.getfield 77, 3) := by decide +kernel
theorem dX12_load_84 : decode cX12_load 84 = .ok (.ireturn, 1) := by decide +kernel
theorem dX12_sideLength_0 : decode cX12_sideLength 0 = .ok (.iload_n 1, 1) := by decide +kernel
theorem dX12_sideLength_1 : decode cX12_sideLength 1 = .ok (.i2l, 1) := by decide +kernel
theorem dX12_sideLength_2 : decode cX12_sideLength 2 = .ok (.lconst 0, 1) := by decide +kernel
theorem dX12_sideLength_3 : decode cX12_sideLength 3 = .ok (.lconst 1, 1) := by decide +kernel
theorem dX12_sideLength_4 : decode cX12_sideLength 4 = .ok (.invokestatic 85, 3) := by decide +kernel
theorem dX12_sideLength_7 : decode cX12_sideLength 7 = .ok (.ifCond .eq 12, 3) := by decide +kernel
theorem dX12_sideLength_10 : decode cX12_sideLength 10 = .ok (.aload_n 0, 1) := by decide +kernel
theorem dX12_sideLength_11 : decode cX12_sideLength 11 = .ok (.getfield 13, 3) := by decide +kernel
theorem dX12_sideLength_14 : decode cX12_sideLength 14 = .ok (.iload_n 1, 1) := by decide +kernel
theorem dX12_sideLength_15 : decode cX12_sideLength 15 = .ok (.iaload, 1) := by decide +kernel
theorem dX12_sideLength_16 : decode cX12_sideLength 16 = .ok (.goto 4, 3) := by decide +kernel
theorem dX12_sideLength_19 : decode cX12_sideLength 19 = .ok (.iconst (-1), 1) := by decide +kernel
theorem dX12_sideLength_20 : decode cX12_sideLength 20 = .ok (.ireturn, 1) := by decide +kernel
theorem dX12_symbolAt_0 : decode cX12_symbolAt 0 = .ok (.iload_n 1, 1) := by decide +kernel
theorem dX12_symbolAt_1 : decode cX12_symbolAt 1 = .ok (.i2l, 1) := by decide +kernel
theorem dX12_symbolAt_2 : decode cX12_symbolAt 2 = .ok (.lconst 0, 1) := by decide +kernel
theorem dX12_symbolAt_3 : decode cX12_symbolAt 3 = .ok (.lconst 1, 1) := by decide +kernel
theorem dX12_symbolAt_4 : decode cX12_symbolAt 4 = .ok (.invokestatic 85, 3) := by decide +kernel
theorem dX12_symbolAt_7 : decode cX12_symbolAt 7 = .ok (.ifCond .eq 37, 3) := by decide +kernel
theorem dX12_symbolAt_10 : decode cX12_symbolAt 10 = .ok (.iload_n 2, 1) := by decide +kernel
theorem dX12_symbolAt_11 : decode cX12_symbolAt 11 = .ok (.i2l, 1) := by decide +kernel
theorem dX12_symbolAt_12 : decode cX12_symbolAt 12 = .ok (.lconst 0, 1) := by decide +kernel
theorem dX12_symbolAt_13 : decode cX12_symbolAt 13 = .ok (.aload_n 0, 1) := by decide +kernel
theorem dX12_symbolAt_14 : decode cX12_symbolAt 14 = .ok (.getfield 13, 3) := by decide +kernel
theorem dX12_symbolAt_17 : decode cX12_symbolAt 17 = .ok (.iload_n 1, 1) := by decide +kernel
theorem dX12_symbolAt_18 : decode cX12_symbolAt 18 = .ok (.iaload, 1) := by decide +kernel
theorem dX12_symbolAt_19 : decode cX12_symbolAt 19 = .ok (.iconst 1, 1) := by decide +kernel
theorem dX12_symbolAt_20 : decode cX12_symbolAt 20 = .ok (.isub, 1) := by decide +kernel
theorem dX12_symbolAt_21 : decode cX12_symbolAt 21 = .ok (.i2l, 1) := by decide +kernel
theorem dX12_symbolAt_22 : decode cX12_symbolAt 22 = .ok (.invokestatic 85, 3) := by decide +kernel
theorem dX12_symbolAt_25 : decode cX12_symbolAt 25 = .ok (.ifCond .eq 19, 3) := by decide +kernel
theorem dX12_symbolAt_28 : decode cX12_symbolAt 28 = .ok (.aload_n 0, 1) := by decide +kernel
theorem dX12_symbolAt_29 : decode cX12_symbolAt 29 = .ok (.getfield 13, 3) := by decide +kernel
theorem dX12_symbolAt_32 : decode cX12_symbolAt 32 = .ok (.iload_n 1, 1) := by decide +kernel
theorem dX12_symbolAt_33 : decode cX12_symbolAt 33 = .ok (.iload_n 2, 1) := by decide +kernel
theorem dX12_symbolAt_34 : decode cX12_symbolAt 34 = .ok (.invokestatic 111, 3) := by decide +kernel
theorem dX12_symbolAt_37 : decode cX12_symbolAt 37 = .ok (.iaload, 1) := by decide +kernel
theorem dX12_symbolAt_38 : decode cX12_symbolAt 38 = .ok (.invokestatic 130, 3) := by decide +kernel
theorem dX12_symbolAt_41 : decode cX12_symbolAt 41 = .ok (.goto 4, 3) := by decide +kernel
theorem dX12_symbolAt_44 : decode cX12_symbolAt 44 = .ok (.iconst (-1), 1) := by decide +kernel
theorem dX12_symbolAt_45 : decode cX12_symbolAt 45 = .ok (.ireturn, 1) := by decide +kernel
theorem dX12_countOf_0 : decode cX12_countOf 0 = .ok (.iconst 0, 1) := by decide +kernel
theorem dX12_countOf_1 : decode cX12_countOf 1 = .ok (.istore_n 3, 1) := by decide +kernel
theorem dX12_countOf_2 : decode cX12_countOf 2 = .ok (.iconst 0, 1) := by decide +kernel
theorem dX12_countOf_3 : decode cX12_countOf 3 = .ok (.istore 4, 2) := by decide +kernel
theorem dX12_countOf_5 : decode cX12_countOf 5 = .ok (.iload 4, 2) := by decide +kernel
theorem dX12_countOf_7 : decode cX12_countOf 7 = .ok (.aload_n 0, 1) := by decide +kernel
theorem dX12_countOf_8 : decode cX12_countOf 8 = .ok (.iload_n 1, 1) := by decide +kernel
theorem dX12_countOf_9 : decode cX12_countOf 9 = .ok (.iaload, 1) := by decide +kernel
theorem dX12_countOf_10 : decode cX12_countOf 10 = .ok (.if_icmp .ge 29, 3) := by decide +kernel
theorem dX12_countOf_13 : decode cX12_countOf 13 = .ok (.iload_n 3, 1) := by decide +kernel
theorem dX12_countOf_14 : decode cX12_countOf 14 = .ok (.aload_n 0, 1) := by decide +kernel
theorem dX12_countOf_15 : decode cX12_countOf 15 = .ok (.iload_n 1, 1) := by decide +kernel
theorem dX12_countOf_16 : decode cX12_countOf 16 = .ok (.iload 4, 2) := by decide +kernel
theorem dX12_countOf_18 : decode cX12_countOf 18 = .ok (.invokestatic 111, 3) := by decide +kernel
theorem dX12_countOf_21 : decode cX12_countOf 21 = .ok (.iaload, 1) := by decide +kernel
theorem dX12_countOf_22 : decode cX12_countOf 22 = .ok (.iload_n 2, 1) := by decide +kernel
theorem dX12_countOf_23 : decode cX12_countOf 23 = .ok (.if_icmp .ne 7, 3) := by decide +kernel
theorem dX12_countOf_26 : decode cX12_countOf 26 = .ok (.iconst 1, 1) := by decide +kernel
theorem dX12_countOf_27 : decode cX12_countOf 27 = .ok (.goto 4, 3) := by decide +kernel
theorem dX12_countOf_30 : decode cX12_countOf 30 = .ok (.iconst 0, 1) := by decide +kernel
theorem dX12_countOf_31 : decode cX12_countOf 31 = .ok (.iadd, 1) := by decide +kernel
theorem dX12_countOf_32 : decode cX12_countOf 32 = .ok (.istore_n 3, 1) := by decide +kernel
theorem dX12_countOf_33 : decode cX12_countOf 33 = .ok (.iinc 4 1, 3) := by decide +kernel
theorem dX12_countOf_36 : decode cX12_countOf 36 = .ok (.goto (-31), 3) := by decide +kernel
theorem dX12_countOf_39 : decode cX12_countOf 39 = .ok (.iload_n 3, 1) := by decide +kernel
theorem dX12_countOf_40 : decode cX12_countOf 40 = .ok (.ireturn, 1) := by decide +kernel
theorem dX12_occurrences_0 : decode cX12_occurrences 0 = .ok (.iload_n 1, 1) := by decide +kernel
theorem dX12_occurrences_1 : decode cX12_occurrences 1 = .ok (.i2l, 1) := by decide +kernel
theorem dX12_occurrences_2 : decode cX12_occurrences 2 = .ok (.lconst 0, 1) := by decide +kernel
theorem dX12_occurrences_3 : decode cX12_occurrences 3 = .ok (.lconst 1, 1) := by decide +kernel
theorem dX12_occurrences_4 : decode cX12_occurrences 4 = .ok (.invokestatic 85, 3) := by decide +kernel
theorem dX12_occurrences_7 : decode cX12_occurrences 7 = .ok (.ifCond .eq 24, 3) := by decide +kernel
theorem dX12_occurrences_10 : decode cX12_occurrences 10 = .ok (.iload_n 2, 1) := by decide +kernel
theorem dX12_occurrences_11 : decode cX12_occurrences 11 = .ok (.invokestatic 133, 3) := by decide +kernel
theorem dX12_occurrences_14 : decode cX12_occurrences 14 = .ok (.ifCond .eq 17, 3) := by decide +kernel
theorem dX12_occurrences_17 : decode cX12_occurrences 17 = .ok (.aload_n 0, 1) := by decide +kernel
theorem dX12_occurrences_18 : decode cX12_occurrences 18 = .ok (.getfield 13, 3) := by decide +kernel
theorem dX12_occurrences_21 : decode cX12_occurrences 21 = .ok (.iload_n 1, 1) := by decide +kernel
theorem dX12_occurrences_22 : decode cX12_occurrences 22 = .ok (.iload_n 2, 1) := by decide +kernel
theorem dX12_occurrences_23 : decode cX12_occurrences 23 = .ok (.iconst 2, 1) := by decide +kernel
theorem dX12_occurrences_24 : decode cX12_occurrences 24 = .ok (.iadd, 1) := by decide +kernel
theorem dX12_occurrences_25 : decode cX12_occurrences 25 = .ok (.invokestatic 137, 3) := by decide +kernel
theorem dX12_occurrences_28 : decode cX12_occurrences 28 = .ok (.goto 4, 3) := by decide +kernel
theorem dX12_occurrences_31 : decode cX12_occurrences 31 = .ok (.iconst (-1), 1) := by decide +kernel
theorem dX12_occurrences_32 : decode cX12_occurrences 32 = .ok (.ireturn, 1) := by decide +kernel
theorem dX12_note_0 : decode cX12_note 0 = .ok (.iconst 0, 1) := by decide +kernel
theorem dX12_note_1 : decode cX12_note 1 = .ok (.istore_n 1, 1) := by decide +kernel
theorem dX12_note_2 : decode cX12_note 2 = .ok (.iload_n 1, 1) := by decide +kernel
theorem dX12_note_3 : decode cX12_note 3 = .ok (.bipush 26, 2) := by decide +kernel
theorem dX12_note_5 : decode cX12_note 5 = .ok (.if_icmp .ge 29, 3) := by decide +kernel
theorem dX12_note_8 : decode cX12_note 8 = .ok (.aload_n 0, 1) := by decide +kernel
theorem dX12_note_9 : decode cX12_note 9 = .ok (.getfield 22, 3) := by decide +kernel
theorem dX12_note_12 : decode cX12_note 12 = .ok (.bipush 26, 2) := by decide +kernel
theorem dX12_note_14 : decode cX12_note 14 = .ok (.aload_n 0, 1) := by decide +kernel
theorem dX12_note_15 : decode cX12_note 15 = .ok (.getfield 141, 3) := by decide +kernel
theorem dX12_note_18 : decode cX12_note 18 = .ok (.imul, 1) := by decide +kernel
theorem dX12_note_19 : decode cX12_note 19 = .ok (.iload_n 1, 1) := by decide +kernel
theorem dX12_note_20 : decode cX12_note 20 = .ok (.iadd, 1) := by decide +kernel
theorem dX12_note_21 : decode cX12_note 21 = .ok (.aload_n 0, 1) := by decide +kernel
theorem dX12_note_22 : decode cX12_note 22 = .ok (.getfield 13, 3) := by decide +kernel
theorem dX12_note_25 : decode cX12_note 25 = .ok (.iload_n 1, 1) := by decide +kernel
theorem dX12_note_26 : decode cX12_note 26 = .ok (.iaload, 1) := by decide +kernel
theorem dX12_note_27 : decode cX12_note 27 = .ok (.iastore, 1) := by decide +kernel
theorem dX12_note_28 : decode cX12_note 28 = .ok (.iinc 1 1, 3) := by decide +kernel
theorem dX12_note_31 : decode cX12_note 31 = .ok (.goto (-29), 3) := by decide +kernel
theorem dX12_note_34 : decode cX12_note 34 = .ok (.aload_n 0, 1) := by decide +kernel
theorem dX12_note_35 : decode cX12_note 35 = .ok (.aload_n 0, 1) := by decide +kernel
theorem dX12_note_36 : decode cX12_note 36 = .ok (.getfield 141, 3) := by decide +kernel
theorem dX12_note_39 : decode cX12_note 39 = .ok (.iconst 1, 1) := by decide +kernel
theorem dX12_note_40 : decode cX12_note 40 = .ok (.iadd, 1) := by decide +kernel
theorem dX12_note_41 : decode cX12_note 41 = .ok (.bipush 14, 2) := by decide +kernel
theorem dX12_note_43 : decode cX12_note 43 = .ok (.irem, 1) := by decide +kernel
theorem dX12_note_44 : decode cX12_note 44 = .ok (.putfield 141, 3) := by decide +kernel
theorem dX12_note_47 : decode cX12_note 47 = .ok (.aload_n 0, 1) := by decide +kernel
theorem dX12_note_48 : decode cX12_note 48 = .ok (.aload_n 0, 1) := by decide +kernel
theorem dX12_note_49 : decode cX12_note 49 = .ok (.getfield 127, 3) := by decide +kernel
theorem dX12_note_52 : decode cX12_note 52 = .ok (.bipush 14, 2) := by decide +kernel
theorem dX12_note_54 : decode cX12_note 54 = .ok (.if_icmp .ge 12, 3) := by decide +kernel
theorem dX12_note_57 : decode cX12_note 57 = .ok (.aload_n 0, 1) := by decide +kernel
theorem dX12_note_58 : decode cX12_note 58 = .ok (.getfield 127, 3) := by decide +kernel
theorem dX12_note_61 : decode cX12_note 61 = .ok (.iconst 1, 1) := by decide +kernel
theorem dX12_note_62 : decode cX12_note 62 = .ok (.iadd, 1) := by decide +kernel
theorem dX12_note_63 : decode cX12_note 63 = .ok (.goto 5, 3) := by decide +kernel
theorem dX12_note_66 : decode cX12_note 66 = .ok (.bipush 14, 2) := by decide +kernel
theorem dX12_note_68 : decode cX12_note 68 = .ok (.putfield 127, 3) := by decide +kernel
theorem dX12_note_71 : decode cX12_note 71 = .ok (.return_, 1) := by decide +kernel
theorem dX12_swapIn_0 : decode cX12_swapIn 0 = .ok (.aload_n 0, 1) := by decide +kernel
theorem dX12_swapIn_1 : decode cX12_swapIn 1 = .ok (.iconst 0, 1) := by decide +kernel
theorem dX12_swapIn_2 : decode cX12_swapIn 2 = .ok (.iaload, 1) := by decide +kernel
theorem dX12_swapIn_3 : decode cX12_swapIn 3 = .ok (.istore_n 1, 1) := by decide +kernel
theorem dX12_swapIn_4 : decode cX12_swapIn 4 = .ok (.aload_n 0, 1) := by decide +kernel
theorem dX12_swapIn_5 : decode cX12_swapIn 5 = .ok (.iconst 0, 1) := by decide +kernel
theorem dX12_swapIn_6 : decode cX12_swapIn 6 = .ok (.aload_n 0, 1) := by decide +kernel
theorem dX12_swapIn_7 : decode cX12_swapIn 7 = .ok (.iconst 1, 1) := by decide +kernel
theorem dX12_swapIn_8 : decode cX12_swapIn 8 = .ok (.iaload, 1) := by decide +kernel
theorem dX12_swapIn_9 : decode cX12_swapIn 9 = .ok (.iastore, 1) := by decide +kernel
theorem dX12_swapIn_10 : decode cX12_swapIn 10 = .ok (.aload_n 0, 1) := by decide +kernel
theorem dX12_swapIn_11 : decode cX12_swapIn 11 = .ok (.iconst 1, 1) := by decide +kernel
theorem dX12_swapIn_12 : decode cX12_swapIn 12 = .ok (.iload_n 1, 1) := by decide +kernel
theorem dX12_swapIn_13 : decode cX12_swapIn 13 = .ok (.iastore, 1) := by decide +kernel
theorem dX12_swapIn_14 : decode cX12_swapIn 14 = .ok (.iconst 0, 1) := by decide +kernel
theorem dX12_swapIn_15 : decode cX12_swapIn 15 = .ok (.istore_n 2, 1) := by decide +kernel
theorem dX12_swapIn_16 : decode cX12_swapIn 16 = .ok (.iload_n 2, 1) := by decide +kernel
theorem dX12_swapIn_17 : decode cX12_swapIn 17 = .ok (.bipush 12, 2) := by decide +kernel
theorem dX12_swapIn_19 : decode cX12_swapIn 19 = .ok (.if_icmp .ge 39, 3) := by decide +kernel
theorem dX12_swapIn_22 : decode cX12_swapIn 22 = .ok (.aload_n 0, 1) := by decide +kernel
theorem dX12_swapIn_23 : decode cX12_swapIn 23 = .ok (.iconst 0, 1) := by decide +kernel
theorem dX12_swapIn_24 : decode cX12_swapIn 24 = .ok (.iload_n 2, 1) := by decide +kernel
theorem dX12_swapIn_25 : decode cX12_swapIn 25 = .ok (.invokestatic 111, 3) := by decide +kernel
theorem dX12_swapIn_28 : decode cX12_swapIn 28 = .ok (.iaload, 1) := by decide +kernel
theorem dX12_swapIn_29 : decode cX12_swapIn 29 = .ok (.istore_n 3, 1) := by decide +kernel
theorem dX12_swapIn_30 : decode cX12_swapIn 30 = .ok (.aload_n 0, 1) := by decide +kernel
theorem dX12_swapIn_31 : decode cX12_swapIn 31 = .ok (.iconst 0, 1) := by decide +kernel
theorem dX12_swapIn_32 : decode cX12_swapIn 32 = .ok (.iload_n 2, 1) := by decide +kernel
theorem dX12_swapIn_33 : decode cX12_swapIn 33 = .ok (.invokestatic 111, 3) := by decide +kernel
theorem dX12_swapIn_36 : decode cX12_swapIn 36 = .ok (.aload_n 0, 1) := by decide +kernel
theorem dX12_swapIn_37 : decode cX12_swapIn 37 = .ok (.iconst 1, 1) := by decide +kernel
theorem dX12_swapIn_38 : decode cX12_swapIn 38 = .ok (.iload_n 2, 1) := by decide +kernel
theorem dX12_swapIn_39 : decode cX12_swapIn 39 = .ok (.invokestatic 111, 3) := by decide +kernel
theorem dX12_swapIn_42 : decode cX12_swapIn 42 = .ok (.iaload, 1) := by decide +kernel
theorem dX12_swapIn_43 : decode cX12_swapIn 43 = .ok (.iastore, 1) := by decide +kernel
theorem dX12_swapIn_44 : decode cX12_swapIn 44 = .ok (.aload_n 0, 1) := by decide +kernel
theorem dX12_swapIn_45 : decode cX12_swapIn 45 = .ok (.iconst 1, 1) := by decide +kernel
theorem dX12_swapIn_46 : decode cX12_swapIn 46 = .ok (.iload_n 2, 1) := by decide +kernel
theorem dX12_swapIn_47 : decode cX12_swapIn 47 = .ok (.invokestatic 111, 3) := by decide +kernel
theorem dX12_swapIn_50 : decode cX12_swapIn 50 = .ok (.iload_n 3, 1) := by decide +kernel
theorem dX12_swapIn_51 : decode cX12_swapIn 51 = .ok (.iastore, 1) := by decide +kernel
theorem dX12_swapIn_52 : decode cX12_swapIn 52 = .ok (.iinc 2 1, 3) := by decide +kernel
theorem dX12_swapIn_55 : decode cX12_swapIn 55 = .ok (.goto (-39), 3) := by decide +kernel
theorem dX12_swapIn_58 : decode cX12_swapIn 58 = .ok (.return_, 1) := by decide +kernel
theorem dX12_swapSides_0 : decode cX12_swapSides 0 = .ok (.aload_n 0, 1) := by decide +kernel
theorem dX12_swapSides_1 : decode cX12_swapSides 1 = .ok (.invokevirtual 144, 3) := by decide +kernel
theorem dX12_swapSides_4 : decode cX12_swapSides 4 = .ok (.aload_n 0, 1) := by decide +kernel
theorem dX12_swapSides_5 : decode cX12_swapSides 5 = .ok (.getfield 13, 3) := by decide +kernel
theorem dX12_swapSides_8 : decode cX12_swapSides 8 = .ok (.invokestatic 147, 3) := by decide +kernel
theorem dX12_swapSides_11 : decode cX12_swapSides 11 = .ok (.aload_n 0, 1) := by decide +kernel
theorem dX12_swapSides_12 : decode cX12_swapSides 12 = .ok (.getfield 13, 3) := by decide +kernel
theorem dX12_swapSides_15 : decode cX12_swapSides 15 = .ok (.iconst 0, 1) := by decide +kernel
theorem dX12_swapSides_16 : decode cX12_swapSides 16 = .ok (.iaload, 1) := by decide +kernel
theorem dX12_swapSides_17 : decode cX12_swapSides 17 = .ok (.ireturn, 1) := by decide +kernel
theorem dX12_reverseIn_0 : decode cX12_reverseIn 0 = .ok (.iconst 0, 1) := by decide +kernel
theorem dX12_reverseIn_1 : decode cX12_reverseIn 1 = .ok (.istore_n 1, 1) := by decide +kernel
theorem dX12_reverseIn_2 : decode cX12_reverseIn 2 = .ok (.iload_n 1, 1) := by decide +kernel
theorem dX12_reverseIn_3 : decode cX12_reverseIn 3 = .ok (.iconst 2, 1) := by decide +kernel
theorem dX12_reverseIn_4 : decode cX12_reverseIn 4 = .ok (.if_icmp .ge 68, 3) := by decide +kernel
theorem dX12_reverseIn_7 : decode cX12_reverseIn 7 = .ok (.aload_n 0, 1) := by decide +kernel
theorem dX12_reverseIn_8 : decode cX12_reverseIn 8 = .ok (.iload_n 1, 1) := by decide +kernel
theorem dX12_reverseIn_9 : decode cX12_reverseIn 9 = .ok (.iaload, 1) := by decide +kernel
theorem dX12_reverseIn_10 : decode cX12_reverseIn 10 = .ok (.istore_n 2, 1) := by decide +kernel
theorem dX12_reverseIn_11 : decode cX12_reverseIn 11 = .ok (.iconst 0, 1) := by decide +kernel
theorem dX12_reverseIn_12 : decode cX12_reverseIn 12 = .ok (.istore_n 3, 1) := by decide +kernel
theorem dX12_reverseIn_13 : decode cX12_reverseIn 13 = .ok (.iload_n 3, 1) := by decide +kernel
theorem dX12_reverseIn_14 : decode cX12_reverseIn 14 = .ok (.iload_n 2, 1) := by decide +kernel
theorem dX12_reverseIn_15 : decode cX12_reverseIn 15 = .ok (.iconst 2, 1) := by decide +kernel
theorem dX12_reverseIn_16 : decode cX12_reverseIn 16 = .ok (.idiv, 1) := by decide +kernel
theorem dX12_reverseIn_17 : decode cX12_reverseIn 17 = .ok (.if_icmp .ge 49, 3) := by decide +kernel
theorem dX12_reverseIn_20 : decode cX12_reverseIn 20 = .ok (.aload_n 0, 1) := by decide +kernel
theorem dX12_reverseIn_21 : decode cX12_reverseIn 21 = .ok (.iload_n 1, 1) := by decide +kernel
theorem dX12_reverseIn_22 : decode cX12_reverseIn 22 = .ok (.iload_n 3, 1) := by decide +kernel
theorem dX12_reverseIn_23 : decode cX12_reverseIn 23 = .ok (.invokestatic 111, 3) := by decide +kernel
theorem dX12_reverseIn_26 : decode cX12_reverseIn 26 = .ok (.iaload, 1) := by decide +kernel
theorem dX12_reverseIn_27 : decode cX12_reverseIn 27 = .ok (.istore 4, 2) := by decide +kernel
theorem dX12_reverseIn_29 : decode cX12_reverseIn 29 = .ok (.aload_n 0, 1) := by decide +kernel
theorem dX12_reverseIn_30 : decode cX12_reverseIn 30 = .ok (.iload_n 1, 1) := by decide +kernel
theorem dX12_reverseIn_31 : decode cX12_reverseIn 31 = .ok (.iload_n 3, 1) := by decide +kernel
theorem dX12_reverseIn_32 : decode cX12_reverseIn 32 = .ok (.invokestatic 111, 3) := by decide +kernel
theorem dX12_reverseIn_35 : decode cX12_reverseIn 35 = .ok (.aload_n 0, 1) := by decide +kernel
theorem dX12_reverseIn_36 : decode cX12_reverseIn 36 = .ok (.iload_n 1, 1) := by decide +kernel
theorem dX12_reverseIn_37 : decode cX12_reverseIn 37 = .ok (.iload_n 2, 1) := by decide +kernel
theorem dX12_reverseIn_38 : decode cX12_reverseIn 38 = .ok (.iconst 1, 1) := by decide +kernel
theorem dX12_reverseIn_39 : decode cX12_reverseIn 39 = .ok (.isub, 1) := by decide +kernel
theorem dX12_reverseIn_40 : decode cX12_reverseIn 40 = .ok (.iload_n 3, 1) := by decide +kernel
theorem dX12_reverseIn_41 : decode cX12_reverseIn 41 = .ok (.isub, 1) := by decide +kernel
theorem dX12_reverseIn_42 : decode cX12_reverseIn 42 = .ok (.invokestatic 111, 3) := by decide +kernel
theorem dX12_reverseIn_45 : decode cX12_reverseIn 45 = .ok (.iaload, 1) := by decide +kernel
theorem dX12_reverseIn_46 : decode cX12_reverseIn 46 = .ok (.iastore, 1) := by decide +kernel
theorem dX12_reverseIn_47 : decode cX12_reverseIn 47 = .ok (.aload_n 0, 1) := by decide +kernel
theorem dX12_reverseIn_48 : decode cX12_reverseIn 48 = .ok (.iload_n 1, 1) := by decide +kernel
theorem dX12_reverseIn_49 : decode cX12_reverseIn 49 = .ok (.iload_n 2, 1) := by decide +kernel
theorem dX12_reverseIn_50 : decode cX12_reverseIn 50 = .ok (.iconst 1, 1) := by decide +kernel
theorem dX12_reverseIn_51 : decode cX12_reverseIn 51 = .ok (.isub, 1) := by decide +kernel
theorem dX12_reverseIn_52 : decode cX12_reverseIn 52 = .ok (.iload_n 3, 1) := by decide +kernel
theorem dX12_reverseIn_53 : decode cX12_reverseIn 53 = .ok (.isub, 1) := by decide +kernel
theorem dX12_reverseIn_54 : decode cX12_reverseIn 54 = .ok (.invokestatic 111, 3) := by decide +kernel
theorem dX12_reverseIn_57 : decode cX12_reverseIn 57 = .ok (.iload 4, 2) := by decide +kernel
theorem dX12_reverseIn_59 : decode cX12_reverseIn 59 = .ok (.iastore, 1) := by decide +kernel
theorem dX12_reverseIn_60 : decode cX12_reverseIn 60 = .ok (.iinc 3 1, 3) := by decide +kernel
theorem dX12_reverseIn_63 : decode cX12_reverseIn 63 = .ok (.goto (-50), 3) := by decide +kernel
theorem dX12_reverseIn_66 : decode cX12_reverseIn 66 = .ok (.iinc 1 1, 3) := by decide +kernel
theorem dX12_reverseIn_69 : decode cX12_reverseIn 69 = .ok (.goto (-67), 3) := by decide +kernel
theorem dX12_reverseIn_72 : decode cX12_reverseIn 72 = .ok (.return_, 1) := by decide +kernel
theorem dX12_reverse_0 : decode cX12_reverse 0 = .ok (.aload_n 0, 1) := by decide +kernel
theorem dX12_reverse_1 : decode cX12_reverse 1 = .ok (.invokevirtual 144, 3) := by decide +kernel
theorem dX12_reverse_4 : decode cX12_reverse 4 = .ok (.aload_n 0, 1) := by decide +kernel
theorem dX12_reverse_5 : decode cX12_reverse 5 = .ok (.getfield 13, 3) := by decide +kernel
theorem dX12_reverse_8 : decode cX12_reverse 8 = .ok (.invokestatic 151, 3) := by decide +kernel
theorem dX12_reverse_11 : decode cX12_reverse 11 = .ok (.aload_n 0, 1) := by decide +kernel
theorem dX12_reverse_12 : decode cX12_reverse 12 = .ok (.getfield 13, 3) := by decide +kernel
theorem dX12_reverse_15 : decode cX12_reverse 15 = .ok (.iconst 0, 1) := by decide +kernel
theorem dX12_reverse_16 : decode cX12_reverse 16 = .ok (.iaload, 1) := by decide +kernel
theorem dX12_reverse_17 : decode cX12_reverse 17 = .ok (.aload_n 0, 1) := by decide +kernel
theorem dX12_reverse_18 : decode cX12_reverse 18 = .ok (.getfield 13, 3) := by decide +kernel
theorem dX12_reverse_21 : decode cX12_reverse 21 = .ok (.iconst 1, 1) := by decide +kernel
theorem dX12_reverse_22 : decode cX12_reverse 22 = .ok (.iaload, 1) := by decide +kernel
theorem dX12_reverse_23 : decode cX12_reverse 23 = .ok (.iadd, 1) := by decide +kernel
theorem dX12_reverse_24 : decode cX12_reverse 24 = .ok (.ireturn, 1) := by decide +kernel
theorem dX12_dropFirst_0 : decode cX12_dropFirst 0 = .ok (.aload_n 0, 1) := by decide +kernel
theorem dX12_dropFirst_1 : decode cX12_dropFirst 1 = .ok (.iload_n 1, 1) := by decide +kernel
theorem dX12_dropFirst_2 : decode cX12_dropFirst 2 = .ok (.dup2, 1) := by decide +kernel
theorem dX12_dropFirst_3 : decode cX12_dropFirst 3 = .ok (.iaload, 1) := by decide +kernel
theorem dX12_dropFirst_4 : decode cX12_dropFirst 4 = .ok (.iconst 1, 1) := by decide +kernel
theorem dX12_dropFirst_5 : decode cX12_dropFirst 5 = .ok (.isub, 1) := by decide +kernel
theorem dX12_dropFirst_6 : decode cX12_dropFirst 6 = .ok (.iastore, 1) := by decide +kernel
theorem dX12_dropFirst_7 : decode cX12_dropFirst 7 = .ok (.iconst 0, 1) := by decide +kernel
theorem dX12_dropFirst_8 : decode cX12_dropFirst 8 = .ok (.istore_n 2, 1) := by decide +kernel
theorem dX12_dropFirst_9 : decode cX12_dropFirst 9 = .ok (.iload_n 2, 1) := by decide +kernel
theorem dX12_dropFirst_10 : decode cX12_dropFirst 10 = .ok (.aload_n 0, 1) := by decide +kernel
theorem dX12_dropFirst_11 : decode cX12_dropFirst 11 = .ok (.iload_n 1, 1) := by decide +kernel
theorem dX12_dropFirst_12 : decode cX12_dropFirst 12 = .ok (.iaload, 1) := by decide +kernel
theorem dX12_dropFirst_13 : decode cX12_dropFirst 13 = .ok (.if_icmp .ge 25, 3) := by decide +kernel
theorem dX12_dropFirst_16 : decode cX12_dropFirst 16 = .ok (.aload_n 0, 1) := by decide +kernel
theorem dX12_dropFirst_17 : decode cX12_dropFirst 17 = .ok (.iload_n 1, 1) := by decide +kernel
theorem dX12_dropFirst_18 : decode cX12_dropFirst 18 = .ok (.iload_n 2, 1) := by decide +kernel
theorem dX12_dropFirst_19 : decode cX12_dropFirst 19 = .ok (.invokestatic 111, 3) := by decide +kernel
theorem dX12_dropFirst_22 : decode cX12_dropFirst 22 = .ok (.aload_n 0, 1) := by decide +kernel
theorem dX12_dropFirst_23 : decode cX12_dropFirst 23 = .ok (.iload_n 1, 1) := by decide +kernel
theorem dX12_dropFirst_24 : decode cX12_dropFirst 24 = .ok (.iload_n 2, 1) := by decide +kernel
theorem dX12_dropFirst_25 : decode cX12_dropFirst 25 = .ok (.iconst 1, 1) := by decide +kernel
theorem dX12_dropFirst_26 : decode cX12_dropFirst 26 = .ok (.iadd, 1) := by decide +kernel
theorem dX12_dropFirst_27 : decode cX12_dropFirst 27 = .ok (.invokestatic 111, 3) := by decide +kernel
theorem dX12_dropFirst_30 : decode cX12_dropFirst 30 = .ok (.iaload, 1) := by decide +kernel
theorem dX12_dropFirst_31 : decode cX12_dropFirst 31 = .ok (.iastore, 1) := by decide +kernel
theorem dX12_dropFirst_32 : decode cX12_dropFirst 32 = .ok (.iinc 2 1, 3) := by decide +kernel
theorem dX12_dropFirst_35 : decode cX12_dropFirst 35 = .ok (.goto (-26), 3) := by decide +kernel
theorem dX12_dropFirst_38 : decode cX12_dropFirst 38 = .ok (.aload_n 0, 1) := by decide +kernel
theorem dX12_dropFirst_39 : decode cX12_dropFirst 39 = .ok (.iload_n 1, 1) := by decide +kernel
theorem dX12_dropFirst_40 : decode cX12_dropFirst 40 = .ok (.aload_n 0, 1) := by decide +kernel
theorem dX12_dropFirst_41 : decode cX12_dropFirst 41 = .ok (.iload_n 1, 1) := by decide +kernel
theorem dX12_dropFirst_42 : decode cX12_dropFirst 42 = .ok (.iaload, 1) := by decide +kernel
theorem dX12_dropFirst_43 : decode cX12_dropFirst 43 = .ok (.invokestatic 111, 3) := by decide +kernel
theorem dX12_dropFirst_46 : decode cX12_dropFirst 46 = .ok (.iconst 0, 1) := by decide +kernel
theorem dX12_dropFirst_47 : decode cX12_dropFirst 47 = .ok (.iastore, 1) := by decide +kernel
theorem dX12_dropFirst_48 : decode cX12_dropFirst 48 = .ok (.return_, 1) := by decide +kernel
theorem dX12_cancelIn_0 : decode cX12_cancelIn 0 = .ok (.iconst 0, 1) := by decide +kernel
theorem dX12_cancelIn_1 : decode cX12_cancelIn 1 = .ok (.istore_n 1, 1) := by decide +kernel
theorem dX12_cancelIn_2 : decode cX12_cancelIn 2 = .ok (.aload_n 0, 1) := by decide +kernel
theorem dX12_cancelIn_3 : decode cX12_cancelIn 3 = .ok (.iconst 0, 1) := by decide +kernel
theorem dX12_cancelIn_4 : decode cX12_cancelIn 4 = .ok (.iaload, 1) := by decide +kernel
theorem dX12_cancelIn_5 : decode cX12_cancelIn 5 = .ok (.ifCond .le 42, 3) := by decide +kernel
theorem dX12_cancelIn_8 : decode cX12_cancelIn 8 = .ok (.aload_n 0, 1) := by decide +kernel
theorem dX12_cancelIn_9 : decode cX12_cancelIn 9 = .ok (.iconst 1, 1) := by decide +kernel
theorem dX12_cancelIn_10 : decode cX12_cancelIn 10 = .ok (.iaload, 1) := by decide +kernel
theorem dX12_cancelIn_11 : decode cX12_cancelIn 11 = .ok (.ifCond .le 36, 3) := by decide +kernel
theorem dX12_cancelIn_14 : decode cX12_cancelIn 14 = .ok (.aload_n 0, 1) := by decide +kernel
theorem dX12_cancelIn_15 : decode cX12_cancelIn 15 = .ok (.iconst 0, 1) := by decide +kernel
theorem dX12_cancelIn_16 : decode cX12_cancelIn 16 = .ok (.iconst 0, 1) := by decide +kernel
theorem dX12_cancelIn_17 : decode cX12_cancelIn 17 = .ok (.invokestatic 111, 3) := by decide +kernel
theorem dX12_cancelIn_20 : decode cX12_cancelIn 20 = .ok (.iaload, 1) := by decide +kernel
theorem dX12_cancelIn_21 : decode cX12_cancelIn 21 = .ok (.aload_n 0, 1) := by decide +kernel
theorem dX12_cancelIn_22 : decode cX12_cancelIn 22 = .ok (.iconst 1, 1) := by decide +kernel
theorem dX12_cancelIn_23 : decode cX12_cancelIn 23 = .ok (.iconst 0, 1) := by decide +kernel
theorem dX12_cancelIn_24 : decode cX12_cancelIn 24 = .ok (.invokestatic 111, 3) := by decide +kernel
theorem dX12_cancelIn_27 : decode cX12_cancelIn 27 = .ok (.iaload, 1) := by decide +kernel
theorem dX12_cancelIn_28 : decode cX12_cancelIn 28 = .ok (.if_icmp .ne 19, 3) := by decide +kernel
theorem dX12_cancelIn_31 : decode cX12_cancelIn 31 = .ok (.aload_n 0, 1) := by decide +kernel
theorem dX12_cancelIn_32 : decode cX12_cancelIn 32 = .ok (.iconst 0, 1) := by decide +kernel
theorem dX12_cancelIn_33 : decode cX12_cancelIn 33 = .ok (.invokestatic 154, 3) := by decide +kernel
theorem dX12_cancelIn_36 : decode cX12_cancelIn 36 = .ok (.aload_n 0, 1) := by decide +kernel
theorem dX12_cancelIn_37 : decode cX12_cancelIn 37 = .ok (.iconst 1, 1) := by decide +kernel
theorem dX12_cancelIn_38 : decode cX12_cancelIn 38 = .ok (.invokestatic 154, 3) := by decide +kernel
theorem dX12_cancelIn_41 : decode cX12_cancelIn 41 = .ok (.iinc 1 1, 3) := by decide +kernel
theorem dX12_cancelIn_44 : decode cX12_cancelIn 44 = .ok (.goto (-42), 3) := by decide +kernel
theorem dX12_cancelIn_47 : decode cX12_cancelIn 47 = .ok (.aload_n 0, 1) := by decide +kernel
theorem dX12_cancelIn_48 : decode cX12_cancelIn 48 = .ok (.iconst 0, 1) := by decide +kernel
theorem dX12_cancelIn_49 : decode cX12_cancelIn 49 = .ok (.iaload, 1) := by decide +kernel
theorem dX12_cancelIn_50 : decode cX12_cancelIn 50 = .ok (.ifCond .le 74, 3) := by decide +kernel
theorem dX12_cancelIn_53 : decode cX12_cancelIn 53 = .ok (.aload_n 0, 1) := by decide +kernel
theorem dX12_cancelIn_54 : decode cX12_cancelIn 54 = .ok (.iconst 1, 1) := by decide +kernel
theorem dX12_cancelIn_55 : decode cX12_cancelIn 55 = .ok (.iaload, 1) := by decide +kernel
theorem dX12_cancelIn_56 : decode cX12_cancelIn 56 = .ok (.ifCond .le 68, 3) := by decide +kernel
theorem dX12_cancelIn_59 : decode cX12_cancelIn 59 = .ok (.aload_n 0, 1) := by decide +kernel
theorem dX12_cancelIn_60 : decode cX12_cancelIn 60 = .ok (.iconst 0, 1) := by decide +kernel
theorem dX12_cancelIn_61 : decode cX12_cancelIn 61 = .ok (.aload_n 0, 1) := by decide +kernel
theorem dX12_cancelIn_62 : decode cX12_cancelIn 62 = .ok (.iconst 0, 1) := by decide +kernel
theorem dX12_cancelIn_63 : decode cX12_cancelIn 63 = .ok (.iaload, 1) := by decide +kernel
theorem dX12_cancelIn_64 : decode cX12_cancelIn 64 = .ok (.iconst 1, 1) := by decide +kernel
theorem dX12_cancelIn_65 : decode cX12_cancelIn 65 = .ok (.isub, 1) := by decide +kernel
theorem dX12_cancelIn_66 : decode cX12_cancelIn 66 = .ok (.invokestatic 111, 3) := by decide +kernel
theorem dX12_cancelIn_69 : decode cX12_cancelIn 69 = .ok (.iaload, 1) := by decide +kernel
theorem dX12_cancelIn_70 : decode cX12_cancelIn 70 = .ok (.aload_n 0, 1) := by decide +kernel
theorem dX12_cancelIn_71 : decode cX12_cancelIn 71 = .ok (.iconst 1, 1) := by decide +kernel
theorem dX12_cancelIn_72 : decode cX12_cancelIn 72 = .ok (.aload_n 0, 1) := by decide +kernel
theorem dX12_cancelIn_73 : decode cX12_cancelIn 73 = .ok (.iconst 1, 1) := by decide +kernel
theorem dX12_cancelIn_74 : decode cX12_cancelIn 74 = .ok (.iaload, 1) := by decide +kernel
theorem dX12_cancelIn_75 : decode cX12_cancelIn 75 = .ok (.iconst 1, 1) := by decide +kernel
theorem dX12_cancelIn_76 : decode cX12_cancelIn 76 = .ok (.isub, 1) := by decide +kernel
theorem dX12_cancelIn_77 : decode cX12_cancelIn 77 = .ok (.invokestatic 111, 3) := by decide +kernel
theorem dX12_cancelIn_80 : decode cX12_cancelIn 80 = .ok (.iaload, 1) := by decide +kernel
theorem dX12_cancelIn_81 : decode cX12_cancelIn 81 = .ok (.if_icmp .ne 43, 3) := by decide +kernel
theorem dX12_cancelIn_84 : decode cX12_cancelIn 84 = .ok (.aload_n 0, 1) := by decide +kernel
theorem dX12_cancelIn_85 : decode cX12_cancelIn 85 = .ok (.iconst 0, 1) := by decide +kernel
theorem dX12_cancelIn_86 : decode cX12_cancelIn 86 = .ok (.dup2, 1) := by decide +kernel
theorem dX12_cancelIn_87 : decode cX12_cancelIn 87 = .ok (.iaload, 1) := by decide +kernel
theorem dX12_cancelIn_88 : decode cX12_cancelIn 88 = .ok (.iconst 1, 1) := by decide +kernel
theorem dX12_cancelIn_89 : decode cX12_cancelIn 89 = .ok (.isub, 1) := by decide +kernel
theorem dX12_cancelIn_90 : decode cX12_cancelIn 90 = .ok (.iastore, 1) := by decide +kernel
theorem dX12_cancelIn_91 : decode cX12_cancelIn 91 = .ok (.aload_n 0, 1) := by decide +kernel
theorem dX12_cancelIn_92 : decode cX12_cancelIn 92 = .ok (.iconst 1, 1) := by decide +kernel
theorem dX12_cancelIn_93 : decode cX12_cancelIn 93 = .ok (.dup2, 1) := by decide +kernel
theorem dX12_cancelIn_94 : decode cX12_cancelIn 94 = .ok (.iaload, 1) := by decide +kernel
theorem dX12_cancelIn_95 : decode cX12_cancelIn 95 = .ok (.iconst 1, 1) := by decide +kernel
theorem dX12_cancelIn_96 : decode cX12_cancelIn 96 = .ok (.isub, 1) := by decide +kernel
theorem dX12_cancelIn_97 : decode cX12_cancelIn 97 = .ok (.iastore, 1) := by decide +kernel
theorem dX12_cancelIn_98 : decode cX12_cancelIn 98 = .ok (.aload_n 0, 1) := by decide +kernel
theorem dX12_cancelIn_99 : decode cX12_cancelIn 99 = .ok (.iconst 0, 1) := by decide +kernel
theorem dX12_cancelIn_100 : decode cX12_cancelIn 100 = .ok (.aload_n 0, 1) := by decide +kernel
theorem dX12_cancelIn_101 : decode cX12_cancelIn 101 = .ok (.iconst 0, 1) := by decide +kernel
theorem dX12_cancelIn_102 : decode cX12_cancelIn 102 = .ok (.iaload, 1) := by decide +kernel
theorem dX12_cancelIn_103 : decode cX12_cancelIn 103 = .ok (.invokestatic 111, 3) := by decide +kernel
theorem dX12_cancelIn_106 : decode cX12_cancelIn 106 = .ok (.iconst 0, 1) := by decide +kernel
theorem dX12_cancelIn_107 : decode cX12_cancelIn 107 = .ok (.iastore, 1) := by decide +kernel
theorem dX12_cancelIn_108 : decode cX12_cancelIn 108 = .ok (.aload_n 0, 1) := by decide +kernel
theorem dX12_cancelIn_109 : decode cX12_cancelIn 109 = .ok (.iconst 1, 1) := by decide +kernel
theorem dX12_cancelIn_110 : decode cX12_cancelIn 110 = .ok (.aload_n 0, 1) := by decide +kernel
theorem dX12_cancelIn_111 : decode cX12_cancelIn 111 = .ok (.iconst 1, 1) := by decide +kernel
theorem dX12_cancelIn_112 : decode cX12_cancelIn 112 = .ok (.iaload, 1) := by decide +kernel
theorem dX12_cancelIn_113 : decode cX12_cancelIn 113 = .ok (.invokestatic 111, 3) := by decide +kernel
theorem dX12_cancelIn_116 : decode cX12_cancelIn 116 = .ok (.iconst 0, 1) := by decide +kernel
theorem dX12_cancelIn_117 : decode cX12_cancelIn 117 = .ok (.iastore, 1) := by decide +kernel
theorem dX12_cancelIn_118 : decode cX12_cancelIn 118 = .ok (.iinc 1 1, 3) := by decide +kernel
theorem dX12_cancelIn_121 : decode cX12_cancelIn 121 = .ok (.goto (-74), 3) := by decide +kernel
theorem dX12_cancelIn_124 : decode cX12_cancelIn 124 = .ok (.iload_n 1, 1) := by decide +kernel
theorem dX12_cancelIn_125 : decode cX12_cancelIn 125 = .ok (.ireturn, 1) := by decide +kernel
theorem dX12_cancel_0 : decode cX12_cancel 0 = .ok (.aload_n 0, 1) := by decide +kernel
theorem dX12_cancel_1 : decode cX12_cancel 1 = .ok (.invokevirtual 144, 3) := by decide +kernel
theorem dX12_cancel_4 : decode cX12_cancel 4 = .ok (.aload_n 0, 1) := by decide +kernel
theorem dX12_cancel_5 : decode cX12_cancel 5 = .ok (.getfield 13, 3) := by decide +kernel
theorem dX12_cancel_8 : decode cX12_cancel 8 = .ok (.invokestatic 158, 3) := by decide +kernel
theorem dX12_cancel_11 : decode cX12_cancel 11 = .ok (.ireturn, 1) := by decide +kernel
theorem dX12_exchangeLetters_0 : decode cX12_exchangeLetters 0 = .ok (.aload_n 0, 1) := by decide +kernel
theorem dX12_exchangeLetters_1 : decode cX12_exchangeLetters 1 = .ok (.invokevirtual 144, 3) := by decide +kernel
theorem dX12_exchangeLetters_4 : decode cX12_exchangeLetters 4 = .ok (.iconst 0, 1) := by decide +kernel
theorem dX12_exchangeLetters_5 : decode cX12_exchangeLetters 5 = .ok (.istore_n 1, 1) := by decide +kernel
theorem dX12_exchangeLetters_6 : decode cX12_exchangeLetters 6 = .ok (.iconst 0, 1) := by decide +kernel
theorem dX12_exchangeLetters_7 : decode cX12_exchangeLetters 7 = .ok (.istore_n 2, 1) := by decide +kernel
theorem dX12_exchangeLetters_8 : decode cX12_exchangeLetters 8 = .ok (.iload_n 2, 1) := by decide +kernel
theorem dX12_exchangeLetters_9 : decode cX12_exchangeLetters 9 = .ok (.iconst 2, 1) := by decide +kernel
theorem dX12_exchangeLetters_10 : decode cX12_exchangeLetters 10 = .ok (.if_icmp .ge 90, 3) := by decide +kernel
theorem dX12_exchangeLetters_13 : decode cX12_exchangeLetters 13 = .ok (.iconst 0, 1) := by decide +kernel
theorem dX12_exchangeLetters_14 : decode cX12_exchangeLetters 14 = .ok (.istore_n 3, 1) := by decide +kernel
theorem dX12_exchangeLetters_15 : decode cX12_exchangeLetters 15 = .ok (.iload_n 3, 1) := by decide +kernel
theorem dX12_exchangeLetters_16 : decode cX12_exchangeLetters 16 = .ok (.aload_n 0, 1) := by decide +kernel
theorem dX12_exchangeLetters_17 : decode cX12_exchangeLetters 17 = .ok (.getfield 13, 3) := by decide +kernel
theorem dX12_exchangeLetters_20 : decode cX12_exchangeLetters 20 = .ok (.iload_n 2, 1) := by decide +kernel
theorem dX12_exchangeLetters_21 : decode cX12_exchangeLetters 21 = .ok (.iaload, 1) := by decide +kernel
theorem dX12_exchangeLetters_22 : decode cX12_exchangeLetters 22 = .ok (.if_icmp .ge 72, 3) := by decide +kernel
theorem dX12_exchangeLetters_25 : decode cX12_exchangeLetters 25 = .ok (.iload_n 2, 1) := by decide +kernel
theorem dX12_exchangeLetters_26 : decode cX12_exchangeLetters 26 = .ok (.iload_n 3, 1) := by decide +kernel
theorem dX12_exchangeLetters_27 : decode cX12_exchangeLetters 27 = .ok (.invokestatic 111, 3) := by decide +kernel
theorem dX12_exchangeLetters_30 : decode cX12_exchangeLetters 30 = .ok (.istore 4, 2) := by decide +kernel
theorem dX12_exchangeLetters_32 : decode cX12_exchangeLetters 32 = .ok (.iload_n 1, 1) := by decide +kernel
theorem dX12_exchangeLetters_33 : decode cX12_exchangeLetters 33 = .ok (.aload_n 0, 1) := by decide +kernel
theorem dX12_exchangeLetters_34 : decode cX12_exchangeLetters 34 = .ok (.getfield 13, 3) := by decide +kernel
theorem dX12_exchangeLetters_37 : decode cX12_exchangeLetters 37 = .ok (.iload 4, 2) := by decide +kernel
theorem dX12_exchangeLetters_39 : decode cX12_exchangeLetters 39 = .ok (.iaload, 1) := by decide +kernel
theorem dX12_exchangeLetters_40 : decode cX12_exchangeLetters 40 = .ok (.iconst 2, 1) := by decide +kernel
theorem dX12_exchangeLetters_41 : decode cX12_exchangeLetters 41 = .ok (.if_icmp .ge 7, 3) := by decide +kernel
theorem dX12_exchangeLetters_44 : decode cX12_exchangeLetters 44 = .ok (.iconst 1, 1) := by decide +kernel
theorem dX12_exchangeLetters_45 : decode cX12_exchangeLetters 45 = .ok (.goto 4, 3) := by decide +kernel
theorem dX12_exchangeLetters_48 : decode cX12_exchangeLetters 48 = .ok (.iconst 0, 1) := by decide +kernel
theorem dX12_exchangeLetters_49 : decode cX12_exchangeLetters 49 = .ok (.iadd, 1) := by decide +kernel
theorem dX12_exchangeLetters_50 : decode cX12_exchangeLetters 50 = .ok (.istore_n 1, 1) := by decide +kernel
theorem dX12_exchangeLetters_51 : decode cX12_exchangeLetters 51 = .ok (.aload_n 0, 1) := by decide +kernel
theorem dX12_exchangeLetters_52 : decode cX12_exchangeLetters 52 = .ok (.getfield 13, 3) := by decide +kernel
theorem dX12_exchangeLetters_55 : decode cX12_exchangeLetters 55 = .ok (.iload 4, 2) := by decide +kernel
theorem dX12_exchangeLetters_57 : decode cX12_exchangeLetters 57 = .ok (.aload_n 0, 1) := by decide +kernel
theorem dX12_exchangeLetters_58 : decode cX12_exchangeLetters 58 = .ok (.getfield 13, 3) := by decide +kernel
theorem dX12_exchangeLetters_61 : decode cX12_exchangeLetters 61 = .ok (.iload 4, 2) := by decide +kernel
theorem dX12_exchangeLetters_63 : decode cX12_exchangeLetters 63 = .ok (.iaload, 1) := by decide +kernel
theorem dX12_exchangeLetters_64 : decode cX12_exchangeLetters 64 = .ok (.iconst 2, 1) := by decide +kernel
theorem dX12_exchangeLetters_65 : decode cX12_exchangeLetters 65 = .ok (.if_icmp .ge 15, 3) := by decide +kernel
theorem dX12_exchangeLetters_68 : decode cX12_exchangeLetters 68 = .ok (.iconst 1, 1) := by decide +kernel
theorem dX12_exchangeLetters_69 : decode cX12_exchangeLetters 69 = .ok (.aload_n 0, 1) := by decide +kernel
theorem dX12_exchangeLetters_70 : decode cX12_exchangeLetters 70 = .ok (.getfield 13, 3) := by decide +kernel
theorem dX12_exchangeLetters_73 : decode cX12_exchangeLetters 73 = .ok (.iload 4, 2) := by decide +kernel
theorem dX12_exchangeLetters_75 : decode cX12_exchangeLetters 75 = .ok (.iaload, 1) := by decide +kernel
theorem dX12_exchangeLetters_76 : decode cX12_exchangeLetters 76 = .ok (.isub, 1) := by decide +kernel
theorem dX12_exchangeLetters_77 : decode cX12_exchangeLetters 77 = .ok (.goto 10, 3) := by decide +kernel
theorem dX12_exchangeLetters_80 : decode cX12_exchangeLetters 80 = .ok (.aload_n 0, 1) := by decide +kernel
theorem dX12_exchangeLetters_81 : decode cX12_exchangeLetters 81 = .ok (.getfield 13, 3) := by decide +kernel
theorem dX12_exchangeLetters_84 : decode cX12_exchangeLetters 84 = .ok (.iload 4, 2) := by decide +kernel
theorem dX12_exchangeLetters_86 : decode cX12_exchangeLetters 86 = .ok (.iaload, 1) := by decide +kernel
theorem dX12_exchangeLetters_87 : decode cX12_exchangeLetters 87 = .ok (.iastore, 1) := by decide +kernel
theorem dX12_exchangeLetters_88 : decode cX12_exchangeLetters 88 = .ok (.iinc 3 1, 3) := by decide +kernel
theorem dX12_exchangeLetters_91 : decode cX12_exchangeLetters 91 = .ok (.goto (-76), 3) := by decide +kernel
theorem dX12_exchangeLetters_94 : decode cX12_exchangeLetters 94 = .ok (.iinc 2 1, 3) := by decide +kernel
theorem dX12_exchangeLetters_97 : decode cX12_exchangeLetters 97 = .ok (.goto (-89), 3) := by decide +kernel
theorem dX12_exchangeLetters_100 : decode cX12_exchangeLetters 100 = .ok (.iload_n 1, 1) := by decide +kernel
theorem dX12_exchangeLetters_101 : decode cX12_exchangeLetters 101 = .ok (.ireturn, 1) := by decide +kernel
theorem dX12_eliminateIn_0 : decode cX12_eliminateIn 0 = .ok (.aload_n 0, 1) := by decide +kernel
theorem dX12_eliminateIn_1 : decode cX12_eliminateIn 1 = .ok (.iconst 0, 1) := by decide +kernel
theorem dX12_eliminateIn_2 : decode cX12_eliminateIn 2 = .ok (.iaload, 1) := by decide +kernel
theorem dX12_eliminateIn_3 : decode cX12_eliminateIn 3 = .ok (.aload_n 0, 1) := by decide +kernel
theorem dX12_eliminateIn_4 : decode cX12_eliminateIn 4 = .ok (.iconst 1, 1) := by decide +kernel
theorem dX12_eliminateIn_5 : decode cX12_eliminateIn 5 = .ok (.iaload, 1) := by decide +kernel
theorem dX12_eliminateIn_6 : decode cX12_eliminateIn 6 = .ok (.iadd, 1) := by decide +kernel
theorem dX12_eliminateIn_7 : decode cX12_eliminateIn 7 = .ok (.istore_n 2, 1) := by decide +kernel
theorem dX12_eliminateIn_8 : decode cX12_eliminateIn 8 = .ok (.iconst 0, 1) := by decide +kernel
theorem dX12_eliminateIn_9 : decode cX12_eliminateIn 9 = .ok (.istore_n 3, 1) := by decide +kernel
theorem dX12_eliminateIn_10 : decode cX12_eliminateIn 10 = .ok (.iload_n 3, 1) := by decide +kernel
theorem dX12_eliminateIn_11 : decode cX12_eliminateIn 11 = .ok (.iconst 2, 1) := by decide +kernel
theorem dX12_eliminateIn_12 : decode cX12_eliminateIn 12 = .ok (.if_icmp .ge 92, 3) := by decide +kernel
theorem dX12_eliminateIn_15 : decode cX12_eliminateIn 15 = .ok (.iconst 0, 1) := by decide +kernel
theorem dX12_eliminateIn_16 : decode cX12_eliminateIn 16 = .ok (.istore 4, 2) := by decide +kernel
theorem dX12_eliminateIn_18 : decode cX12_eliminateIn 18 = .ok (.iconst 0, 1) := by decide +kernel
theorem dX12_eliminateIn_19 : decode cX12_eliminateIn 19 = .ok (.istore 5, 2) := by decide +kernel
theorem dX12_eliminateIn_21 : decode cX12_eliminateIn 21 = .ok (.iload 5, 2) := by decide +kernel
theorem dX12_eliminateIn_23 : decode cX12_eliminateIn 23 = .ok (.aload_n 0, 1) := by decide +kernel
theorem dX12_eliminateIn_24 : decode cX12_eliminateIn 24 = .ok (.iload_n 3, 1) := by decide +kernel
theorem dX12_eliminateIn_25 : decode cX12_eliminateIn 25 = .ok (.iaload, 1) := by decide +kernel
theorem dX12_eliminateIn_26 : decode cX12_eliminateIn 26 = .ok (.if_icmp .ge 40, 3) := by decide +kernel
theorem dX12_eliminateIn_29 : decode cX12_eliminateIn 29 = .ok (.aload_n 0, 1) := by decide +kernel
theorem dX12_eliminateIn_30 : decode cX12_eliminateIn 30 = .ok (.iload_n 3, 1) := by decide +kernel
theorem dX12_eliminateIn_31 : decode cX12_eliminateIn 31 = .ok (.iload 5, 2) := by decide +kernel
theorem dX12_eliminateIn_33 : decode cX12_eliminateIn 33 = .ok (.invokestatic 111, 3) := by decide +kernel
theorem dX12_eliminateIn_36 : decode cX12_eliminateIn 36 = .ok (.iaload, 1) := by decide +kernel
theorem dX12_eliminateIn_37 : decode cX12_eliminateIn 37 = .ok (.istore 6, 2) := by decide +kernel
theorem dX12_eliminateIn_39 : decode cX12_eliminateIn 39 = .ok (.iload 6, 2) := by decide +kernel
theorem dX12_eliminateIn_41 : decode cX12_eliminateIn 41 = .ok (.iload_n 1, 1) := by decide +kernel
theorem dX12_eliminateIn_42 : decode cX12_eliminateIn 42 = .ok (.iconst 2, 1) := by decide +kernel
theorem dX12_eliminateIn_43 : decode cX12_eliminateIn 43 = .ok (.iadd, 1) := by decide +kernel
theorem dX12_eliminateIn_44 : decode cX12_eliminateIn 44 = .ok (.if_icmp .eq 16, 3) := by decide +kernel
theorem dX12_eliminateIn_47 : decode cX12_eliminateIn 47 = .ok (.aload_n 0, 1) := by decide +kernel
theorem dX12_eliminateIn_48 : decode cX12_eliminateIn 48 = .ok (.iload_n 3, 1) := by decide +kernel
theorem dX12_eliminateIn_49 : decode cX12_eliminateIn 49 = .ok (.iload 4, 2) := by decide +kernel
theorem dX12_eliminateIn_51 : decode cX12_eliminateIn 51 = .ok (.invokestatic 111, 3) := by decide +kernel
theorem dX12_eliminateIn_54 : decode cX12_eliminateIn 54 = .ok (.iload 6, 2) := by decide +kernel
theorem dX12_eliminateIn_56 : decode cX12_eliminateIn 56 = .ok (.iastore, 1) := by decide +kernel
theorem dX12_eliminateIn_57 : decode cX12_eliminateIn 57 = .ok (.iinc 4 1, 3) := by decide +kernel
theorem dX12_eliminateIn_60 : decode cX12_eliminateIn 60 = .ok (.iinc 5 1, 3) := by decide +kernel
theorem dX12_eliminateIn_63 : decode cX12_eliminateIn 63 = .ok (.goto (-42), 3) := by decide +kernel
theorem dX12_eliminateIn_66 : decode cX12_eliminateIn 66 = .ok (.iload 4, 2) := by decide +kernel
theorem dX12_eliminateIn_68 : decode cX12_eliminateIn 68 = .ok (.istore 5, 2) := by decide +kernel
theorem dX12_eliminateIn_70 : decode cX12_eliminateIn 70 = .ok (.iload 5, 2) := by decide +kernel
theorem dX12_eliminateIn_72 : decode cX12_eliminateIn 72 = .ok (.aload_n 0, 1) := by decide +kernel
theorem dX12_eliminateIn_73 : decode cX12_eliminateIn 73 = .ok (.iload_n 3, 1) := by decide +kernel
theorem dX12_eliminateIn_74 : decode cX12_eliminateIn 74 = .ok (.iaload, 1) := by decide +kernel
theorem dX12_eliminateIn_75 : decode cX12_eliminateIn 75 = .ok (.if_icmp .ge 18, 3) := by decide +kernel
theorem dX12_eliminateIn_78 : decode cX12_eliminateIn 78 = .ok (.aload_n 0, 1) := by decide +kernel
theorem dX12_eliminateIn_79 : decode cX12_eliminateIn 79 = .ok (.iload_n 3, 1) := by decide +kernel
theorem dX12_eliminateIn_80 : decode cX12_eliminateIn 80 = .ok (.iload 5, 2) := by decide +kernel
theorem dX12_eliminateIn_82 : decode cX12_eliminateIn 82 = .ok (.invokestatic 111, 3) := by decide +kernel
theorem dX12_eliminateIn_85 : decode cX12_eliminateIn 85 = .ok (.iconst 0, 1) := by decide +kernel
theorem dX12_eliminateIn_86 : decode cX12_eliminateIn 86 = .ok (.iastore, 1) := by decide +kernel
theorem dX12_eliminateIn_87 : decode cX12_eliminateIn 87 = .ok (.iinc 5 1, 3) := by decide +kernel
theorem dX12_eliminateIn_90 : decode cX12_eliminateIn 90 = .ok (.goto (-20), 3) := by decide +kernel
theorem dX12_eliminateIn_93 : decode cX12_eliminateIn 93 = .ok (.aload_n 0, 1) := by decide +kernel
theorem dX12_eliminateIn_94 : decode cX12_eliminateIn 94 = .ok (.iload_n 3, 1) := by decide +kernel
theorem dX12_eliminateIn_95 : decode cX12_eliminateIn 95 = .ok (.iload 4, 2) := by decide +kernel
theorem dX12_eliminateIn_97 : decode cX12_eliminateIn 97 = .ok (.iastore, 1) := by decide +kernel
theorem dX12_eliminateIn_98 : decode cX12_eliminateIn 98 = .ok (.iinc 3 1, 3) := by decide +kernel
theorem dX12_eliminateIn_101 : decode cX12_eliminateIn 101 = .ok (.goto (-91), 3) := by decide +kernel
theorem dX12_eliminateIn_104 : decode cX12_eliminateIn 104 = .ok (.iload_n 2, 1) := by decide +kernel
theorem dX12_eliminateIn_105 : decode cX12_eliminateIn 105 = .ok (.aload_n 0, 1) := by decide +kernel
theorem dX12_eliminateIn_106 : decode cX12_eliminateIn 106 = .ok (.iconst 0, 1) := by decide +kernel
theorem dX12_eliminateIn_107 : decode cX12_eliminateIn 107 = .ok (.iaload, 1) := by decide +kernel
theorem dX12_eliminateIn_108 : decode cX12_eliminateIn 108 = .ok (.isub, 1) := by decide +kernel
theorem dX12_eliminateIn_109 : decode cX12_eliminateIn 109 = .ok (.aload_n 0, 1) := by decide +kernel
theorem dX12_eliminateIn_110 : decode cX12_eliminateIn 110 = .ok (.iconst 1, 1) := by decide +kernel
theorem dX12_eliminateIn_111 : decode cX12_eliminateIn 111 = .ok (.iaload, 1) := by decide +kernel
theorem dX12_eliminateIn_112 : decode cX12_eliminateIn 112 = .ok (.isub, 1) := by decide +kernel
theorem dX12_eliminateIn_113 : decode cX12_eliminateIn 113 = .ok (.ireturn, 1) := by decide +kernel
theorem dX12_eliminate_0 : decode cX12_eliminate 0 = .ok (.iload_n 1, 1) := by decide +kernel
theorem dX12_eliminate_1 : decode cX12_eliminate 1 = .ok (.invokestatic 133, 3) := by decide +kernel
theorem dX12_eliminate_4 : decode cX12_eliminate 4 = .ok (.ifCond .ne 5, 3) := by decide +kernel
theorem dX12_eliminate_7 : decode cX12_eliminate 7 = .ok (.iconst (-1), 1) := by decide +kernel
theorem dX12_eliminate_8 : decode cX12_eliminate 8 = .ok (.ireturn, 1) := by decide +kernel
theorem dX12_eliminate_9 : decode cX12_eliminate 9 = .ok (.aload_n 0, 1) := by decide +kernel
theorem dX12_eliminate_10 : decode cX12_eliminate 10 = .ok (.invokevirtual 144, 3) := by decide +kernel
theorem dX12_eliminate_13 : decode cX12_eliminate 13 = .ok (.aload_n 0, 1) := by decide +kernel
theorem dX12_eliminate_14 : decode cX12_eliminate 14 = .ok (.getfield 13, 3) := by decide +kernel
theorem dX12_eliminate_17 : decode cX12_eliminate 17 = .ok (.iload_n 1, 1) := by decide +kernel
theorem dX12_eliminate_18 : decode cX12_eliminate 18 = .ok (.invokestatic 162, 3) := by decide +kernel
theorem dX12_eliminate_21 : decode cX12_eliminate 21 = .ok (.ireturn, 1) := by decide +kernel
theorem dX12_substitute_0 : decode cX12_substitute 0 = .ok (.iload_n 1, 1) := by decide +kernel
theorem dX12_substitute_1 : decode cX12_substitute 1 = .ok (.invokestatic 133, 3) := by decide +kernel
theorem dX12_substitute_4 : decode cX12_substitute 4 = .ok (.ifCond .ne 5, 3) := by decide +kernel
theorem dX12_substitute_7 : decode cX12_substitute 7 = .ok (.iconst (-1), 1) := by decide +kernel
theorem dX12_substitute_8 : decode cX12_substitute 8 = .ok (.ireturn, 1) := by decide +kernel
theorem dX12_substitute_9 : decode cX12_substitute 9 = .ok (.iconst 0, 1) := by decide +kernel
theorem dX12_substitute_10 : decode cX12_substitute 10 = .ok (.istore_n 2, 1) := by decide +kernel
theorem dX12_substitute_11 : decode cX12_substitute 11 = .ok (.iload_n 2, 1) := by decide +kernel
theorem dX12_substitute_12 : decode cX12_substitute 12 = .ok (.aload_n 0, 1) := by decide +kernel
theorem dX12_substitute_13 : decode cX12_substitute 13 = .ok (.getfield 93, 3) := by decide +kernel
theorem dX12_substitute_16 : decode cX12_substitute 16 = .ok (.if_icmp .ge 26, 3) := by decide +kernel
theorem dX12_substitute_19 : decode cX12_substitute 19 = .ok (.aload_n 0, 1) := by decide +kernel
theorem dX12_substitute_20 : decode cX12_substitute 20 = .ok (.getfield 7, 3) := by decide +kernel
theorem dX12_substitute_23 : decode cX12_substitute 23 = .ok (.iload_n 2, 1) := by decide +kernel
theorem dX12_substitute_24 : decode cX12_substitute 24 = .ok (.iaload, 1) := by decide +kernel
theorem dX12_substitute_25 : decode cX12_substitute 25 = .ok (.invokestatic 107, 3) := by decide +kernel
theorem dX12_substitute_28 : decode cX12_substitute 28 = .ok (.bipush (-9), 2) := by decide +kernel
theorem dX12_substitute_30 : decode cX12_substitute 30 = .ok (.if_icmp .ne 6, 3) := by decide +kernel
theorem dX12_substitute_33 : decode cX12_substitute 33 = .ok (.bipush (-3), 2) := by decide +kernel
theorem dX12_substitute_35 : decode cX12_substitute 35 = .ok (.ireturn, 1) := by decide +kernel
theorem dX12_substitute_36 : decode cX12_substitute 36 = .ok (.iinc 2 1, 3) := by decide +kernel
theorem dX12_substitute_39 : decode cX12_substitute 39 = .ok (.goto (-28), 3) := by decide +kernel
theorem dX12_substitute_42 : decode cX12_substitute 42 = .ok (.iconst 0, 1) := by decide +kernel
theorem dX12_substitute_43 : decode cX12_substitute 43 = .ok (.istore_n 2, 1) := by decide +kernel
theorem dX12_substitute_44 : decode cX12_substitute 44 = .ok (.iconst 0, 1) := by decide +kernel
theorem dX12_substitute_45 : decode cX12_substitute 45 = .ok (.istore_n 3, 1) := by decide +kernel
theorem dX12_substitute_46 : decode cX12_substitute 46 = .ok (.iload_n 3, 1) := by decide +kernel
theorem dX12_substitute_47 : decode cX12_substitute 47 = .ok (.bipush 26, 2) := by decide +kernel
theorem dX12_substitute_49 : decode cX12_substitute 49 = .ok (.if_icmp .ge 16, 3) := by decide +kernel
theorem dX12_substitute_52 : decode cX12_substitute 52 = .ok (.aload_n 0, 1) := by decide +kernel
theorem dX12_substitute_53 : decode cX12_substitute 53 = .ok (.getfield 16, 3) := by decide +kernel
theorem dX12_substitute_56 : decode cX12_substitute 56 = .ok (.iload_n 3, 1) := by decide +kernel
theorem dX12_substitute_57 : decode cX12_substitute 57 = .ok (.iconst 0, 1) := by decide +kernel
theorem dX12_substitute_58 : decode cX12_substitute 58 = .ok (.iastore, 1) := by decide +kernel
theorem dX12_substitute_59 : decode cX12_substitute 59 = .ok (.iinc 3 1, 3) := by decide +kernel
theorem dX12_substitute_62 : decode cX12_substitute 62 = .ok (.goto (-16), 3) := by decide +kernel
theorem dX12_substitute_65 : decode cX12_substitute 65 = .ok (.iconst 0, 1) := by decide +kernel
theorem dX12_substitute_66 : decode cX12_substitute 66 = .ok (.istore_n 3, 1) := by decide +kernel
theorem dX12_substitute_67 : decode cX12_substitute 67 = .ok (.iload_n 3, 1) := by decide +kernel
theorem dX12_substitute_68 : decode cX12_substitute 68 = .ok (.iconst 2, 1) := by decide +kernel
theorem dX12_substitute_69 : decode cX12_substitute 69 = .ok (.if_icmp .ge 171, 3) := by decide +kernel
theorem dX12_substitute_72 : decode cX12_substitute 72 = .ok (.aload_n 0, 1) := by decide +kernel
theorem dX12_substitute_73 : decode cX12_substitute 73 = .ok (.getfield 13, 3) := by decide +kernel
theorem dX12_substitute_76 : decode cX12_substitute 76 = .ok (.iload_n 3, 1) := by decide +kernel
theorem dX12_substitute_77 : decode cX12_substitute 77 = .ok (.iload_n 1, 1) := by decide +kernel
theorem dX12_substitute_78 : decode cX12_substitute 78 = .ok (.iconst 2, 1) := by decide +kernel
theorem dX12_substitute_79 : decode cX12_substitute 79 = .ok (.iadd, 1) := by decide +kernel
theorem dX12_substitute_80 : decode cX12_substitute 80 = .ok (.invokestatic 137, 3) := by decide +kernel
theorem dX12_substitute_83 : decode cX12_substitute 83 = .ok (.istore 4, 2) := by decide +kernel
theorem dX12_substitute_85 : decode cX12_substitute 85 = .ok (.aload_n 0, 1) := by decide +kernel
theorem dX12_substitute_86 : decode cX12_substitute 86 = .ok (.getfield 13, 3) := by decide +kernel
theorem dX12_substitute_89 : decode cX12_substitute 89 = .ok (.iload_n 3, 1) := by decide +kernel
theorem dX12_substitute_90 : decode cX12_substitute 90 = .ok (.iaload, 1) := by decide +kernel
theorem dX12_substitute_91 : decode cX12_substitute 91 = .ok (.iload 4, 2) := by decide +kernel
theorem dX12_substitute_93 : decode cX12_substitute 93 = .ok (.aload_n 0, 1) := by decide +kernel
theorem dX12_substitute_94 : decode cX12_substitute 94 = .ok (.getfield 93, 3) := by decide +kernel
theorem dX12_substitute_97 : decode cX12_substitute 97 = .ok (.iconst 1, 1) := by decide +kernel
theorem dX12_substitute_98 : decode cX12_substitute 98 = .ok (.isub, 1) := by decide +kernel
theorem dX12_substitute_99 : decode cX12_substitute 99 = .ok (.imul, 1) := by decide +kernel
theorem dX12_substitute_100 : decode cX12_substitute 100 = .ok (.iadd, 1) := by decide +kernel
theorem dX12_substitute_101 : decode cX12_substitute 101 = .ok (.bipush 12, 2) := by decide +kernel
theorem dX12_substitute_103 : decode cX12_substitute 103 = .ok (.if_icmp .le 6, 3) := by decide +kernel
theorem dX12_substitute_106 : decode cX12_substitute 106 = .ok (.bipush (-4), 2) := by decide +kernel
theorem dX12_substitute_108 : decode cX12_substitute 108 = .ok (.ireturn, 1) := by decide +kernel
theorem dX12_substitute_109 : decode cX12_substitute 109 = .ok (.iload_n 2, 1) := by decide +kernel
theorem dX12_substitute_110 : decode cX12_substitute 110 = .ok (.iload 4, 2) := by decide +kernel
theorem dX12_substitute_112 : decode cX12_substitute 112 = .ok (.iadd, 1) := by decide +kernel
theorem dX12_substitute_113 : decode cX12_substitute 113 = .ok (.istore_n 2, 1) := by decide +kernel
theorem dX12_substitute_114 : decode cX12_substitute 114 = .ok (.iconst 0, 1) := by decide +kernel
theorem dX12_substitute_115 : decode cX12_substitute 115 = .ok (.istore 5, 2) := by decide +kernel
theorem dX12_substitute_117 : decode cX12_substitute 117 = .ok (.iload 5, 2) := by decide +kernel
theorem dX12_substitute_119 : decode cX12_substitute 119 = .ok (.aload_n 0, 1) := by decide +kernel
theorem dX12_substitute_120 : decode cX12_substitute 120 = .ok (.getfield 13, 3) := by decide +kernel
theorem dX12_substitute_123 : decode cX12_substitute 123 = .ok (.iload_n 3, 1) := by decide +kernel
theorem dX12_substitute_124 : decode cX12_substitute 124 = .ok (.iaload, 1) := by decide +kernel
theorem dX12_substitute_125 : decode cX12_substitute 125 = .ok (.if_icmp .ge 109, 3) := by decide +kernel
theorem dX12_substitute_128 : decode cX12_substitute 128 = .ok (.aload_n 0, 1) := by decide +kernel
theorem dX12_substitute_129 : decode cX12_substitute 129 = .ok (.getfield 13, 3) := by decide +kernel
theorem dX12_substitute_132 : decode cX12_substitute 132 = .ok (.iload_n 3, 1) := by decide +kernel
theorem dX12_substitute_133 : decode cX12_substitute 133 = .ok (.iload 5, 2) := by decide +kernel
theorem dX12_substitute_135 : decode cX12_substitute 135 = .ok (.invokestatic 111, 3) := by decide +kernel
theorem dX12_substitute_138 : decode cX12_substitute 138 = .ok (.iaload, 1) := by decide +kernel
theorem dX12_substitute_139 : decode cX12_substitute 139 = .ok (.istore 6, 2) := by decide +kernel
theorem dX12_substitute_141 : decode cX12_substitute 141 = .ok (.iload 6, 2) := by decide +kernel
theorem dX12_substitute_143 : decode cX12_substitute 143 = .ok (.iload_n 1, 1) := by decide +kernel
theorem dX12_substitute_144 : decode cX12_substitute 144 = .ok (.iconst 2, 1) := by decide +kernel
theorem dX12_substitute_145 : decode cX12_substitute 145 = .ok (.iadd, 1) := by decide +kernel
theorem dX12_substitute_146 : decode cX12_substitute 146 = .ok (.if_icmp .ne 7, 3) := by decide +kernel
theorem dX12_substitute_149 : decode cX12_substitute 149 = .ok (.iconst 1, 1) := by decide +kernel
theorem dX12_substitute_150 : decode cX12_substitute 150 = .ok (.goto 4, 3) := by decide +kernel
theorem dX12_substitute_153 : decode cX12_substitute 153 = .ok (.iconst 0, 1) := by decide +kernel
theorem dX12_substitute_154 : decode cX12_substitute 154 = .ok (.istore 7, 2) := by decide +kernel
theorem dX12_substitute_156 : decode cX12_substitute 156 = .ok (.iconst 0, 1) := by decide +kernel
theorem dX12_substitute_157 : decode cX12_substitute 157 = .ok (.istore 8, 2) := by decide +kernel
theorem dX12_substitute_159 : decode cX12_substitute 159 = .ok (.iload 8, 2) := by decide +kernel
theorem dX12_substitute_161 : decode cX12_substitute 161 = .ok (.iload 7, 2) := by decide +kernel
theorem dX12_substitute_163 : decode cX12_substitute 163 = .ok (.ifCond .eq 10, 3) := by decide +kernel
theorem dX12_substitute_166 : decode cX12_substitute 166 = .ok (.aload_n 0, 1) := by decide +kernel
theorem dX12_substitute_167 : decode cX12_substitute 167 = .ok (.getfield 93, 3) := by decide +kernel
theorem dX12_substitute_170 : decode cX12_substitute 170 = .ok (.goto 4, 3) := by decide +kernel
theorem dX12_substitute_173 : decode cX12_substitute 173 = .ok (.iconst 1, 1) := by decide +kernel
theorem dX12_substitute_174 : decode cX12_substitute 174 = .ok (.if_icmp .ge 54, 3) := by decide +kernel
theorem dX12_substitute_177 : decode cX12_substitute 177 = .ok (.aload_n 0, 1) := by decide +kernel
theorem dX12_substitute_178 : decode cX12_substitute 178 = .ok (.getfield 16, 3) := by decide +kernel
theorem dX12_substitute_181 : decode cX12_substitute 181 = .ok (.iload_n 3, 1) := by decide +kernel
theorem dX12_substitute_182 : decode cX12_substitute 182 = .ok (.aload_n 0, 1) := by decide +kernel
theorem dX12_substitute_183 : decode cX12_substitute 183 = .ok (.getfield 16, 3) := by decide +kernel
theorem dX12_substitute_186 : decode cX12_substitute 186 = .ok (.iload_n 3, 1) := by decide +kernel
theorem dX12_substitute_187 : decode cX12_substitute 187 = .ok (.iaload, 1) := by decide +kernel
theorem dX12_substitute_188 : decode cX12_substitute 188 = .ok (.invokestatic 111, 3) := by decide +kernel
theorem dX12_substitute_191 : decode cX12_substitute 191 = .ok (.iload 7, 2) := by decide +kernel
theorem dX12_substitute_193 : decode cX12_substitute 193 = .ok (.ifCond .eq 16, 3) := by decide +kernel
theorem dX12_substitute_196 : decode cX12_substitute 196 = .ok (.aload_n 0, 1) := by decide +kernel
theorem dX12_substitute_197 : decode cX12_substitute 197 = .ok (.getfield 7, 3) := by decide +kernel
theorem dX12_substitute_200 : decode cX12_substitute 200 = .ok (.iload 8, 2) := by decide +kernel
theorem dX12_substitute_202 : decode cX12_substitute 202 = .ok (.iaload, 1) := by decide +kernel
theorem dX12_substitute_203 : decode cX12_substitute 203 = .ok (.invokestatic 107, 3) := by decide +kernel
theorem dX12_substitute_206 : decode cX12_substitute 206 = .ok (.goto 5, 3) := by decide +kernel
theorem dX12_substitute_209 : decode cX12_substitute 209 = .ok (.iload 6, 2) := by decide +kernel
theorem dX12_substitute_211 : decode cX12_substitute 211 = .ok (.iastore, 1) := by decide +kernel
theorem dX12_substitute_212 : decode cX12_substitute 212 = .ok (.aload_n 0, 1) := by decide +kernel
theorem dX12_substitute_213 : decode cX12_substitute 213 = .ok (.getfield 16, 3) := by decide +kernel
theorem dX12_substitute_216 : decode cX12_substitute 216 = .ok (.iload_n 3, 1) := by decide +kernel
theorem dX12_substitute_217 : decode cX12_substitute 217 = .ok (.dup2, 1) := by decide +kernel
theorem dX12_substitute_218 : decode cX12_substitute 218 = .ok (.iaload, 1) := by decide +kernel
theorem dX12_substitute_219 : decode cX12_substitute 219 = .ok (.iconst 1, 1) := by decide +kernel
theorem dX12_substitute_220 : decode cX12_substitute 220 = .ok (.iadd, 1) := by decide +kernel
theorem dX12_substitute_221 : decode cX12_substitute 221 = .ok (.iastore, 1) := by decide +kernel
theorem dX12_substitute_222 : decode cX12_substitute 222 = .ok (.iinc 8 1, 3) := by decide +kernel
theorem dX12_substitute_225 : decode cX12_substitute 225 = .ok (.goto (-66), 3) := by decide +kernel
theorem dX12_substitute_228 : decode cX12_substitute 228 = .ok (.iinc 5 1, 3) := by decide +kernel
theorem dX12_substitute_231 : decode cX12_substitute 231 = .ok (.goto (-114), 3) := by decide +kernel
theorem dX12_substitute_234 : decode cX12_substitute 234 = .ok (.iinc 3 1, 3) := by decide +kernel
theorem dX12_substitute_237 : decode cX12_substitute 237 = .ok (.goto (-170), 3) := by decide +kernel
theorem dX12_substitute_240 : decode cX12_substitute 240 = .ok (.aload_n 0, 1) := by decide +kernel
theorem dX12_substitute_241 : decode cX12_substitute 241 = .ok (.invokevirtual 144, 3) := by decide +kernel
theorem dX12_substitute_244 : decode cX12_substitute 244 = .ok (.aload_n 0, 1) := by decide +kernel
theorem dX12_substitute_245 : decode cX12_substitute 245 = .ok (.getfield 16, 3) := by decide +kernel
theorem dX12_substitute_248 : decode cX12_substitute 248 = .ok (.aload_n 0, 1) := by decide +kernel
theorem dX12_substitute_249 : decode cX12_substitute 249 = .ok (.getfield 13, 3) := by decide +kernel
theorem dX12_substitute_252 : decode cX12_substitute 252 = .ok (.invokestatic 123, 3) := by decide +kernel
theorem dX12_substitute_255 : decode cX12_substitute 255 = .ok (.iload_n 2, 1) := by decide +kernel
theorem dX12_substitute_256 : decode cX12_substitute 256 = .ok (.ireturn, 1) := by decide +kernel
theorem dX12_undo_0 : decode cX12_undo 0 = .ok (.aload_n 0, 1) := by decide +kernel
theorem dX12_undo_1 : decode cX12_undo 1 = .ok (.getfield 127, 3) := by decide +kernel
theorem dX12_undo_4 : decode cX12_undo 4 = .ok (.ifCond .ne 6, 3) := by decide +kernel
theorem dX12_undo_7 : decode cX12_undo 7 = .ok (.bipush (-3), 2) := by decide +kernel
theorem dX12_undo_9 : decode cX12_undo 9 = .ok (.ireturn, 1) := by decide +kernel
theorem dX12_undo_10 : decode cX12_undo 10 = .ok (.aload_n 0, 1) := by decide +kernel
theorem dX12_undo_11 : decode cX12_undo 11 = .ok (.dup, 1) := by decide +kernel
theorem dX12_undo_12 : decode cX12_undo 12 = .ok (.getfield 127, 3) := by decide +kernel
theorem dX12_undo_15 : decode cX12_undo 15 = .ok (.iconst 1, 1) := by decide +kernel
theorem dX12_undo_16 : decode cX12_undo 16 = .ok (.isub, 1) := by decide +kernel
theorem dX12_undo_17 : decode cX12_undo 17 = .ok (.putfield 127, 3) := by decide +kernel
theorem dX12_undo_20 : decode cX12_undo 20 = .ok (.aload_n 0, 1) := by decide +kernel
theorem dX12_undo_21 : decode cX12_undo 21 = .ok (.aload_n 0, 1) := by decide +kernel
theorem dX12_undo_22 : decode cX12_undo 22 = .ok (.getfield 141, 3) := by decide +kernel
theorem dX12_undo_25 : decode cX12_undo 25 = .ok (.bipush 14, 2) := by decide +kernel
theorem dX12_undo_27 : decode cX12_undo 27 = .ok (.iadd, 1) := by decide +kernel
theorem dX12_undo_28 : decode cX12_undo 28 = .ok (.iconst 1, 1) := by decide +kernel
theorem dX12_undo_29 : decode cX12_undo 29 = .ok (.isub, 1) := by decide +kernel
theorem dX12_undo_30 : decode cX12_undo 30 = .ok (.bipush 14, 2) := by decide +kernel
theorem dX12_undo_32 : decode cX12_undo 32 = .ok (.irem, 1) := by decide +kernel
theorem dX12_undo_33 : decode cX12_undo 33 = .ok (.putfield 141, 3) := by decide +kernel
theorem dX12_undo_36 : decode cX12_undo 36 = .ok (.iconst 0, 1) := by decide +kernel
theorem dX12_undo_37 : decode cX12_undo 37 = .ok (.istore_n 1, 1) := by decide +kernel
theorem dX12_undo_38 : decode cX12_undo 38 = .ok (.iload_n 1, 1) := by decide +kernel
theorem dX12_undo_39 : decode cX12_undo 39 = .ok (.bipush 26, 2) := by decide +kernel
theorem dX12_undo_41 : decode cX12_undo 41 = .ok (.if_icmp .ge 29, 3) := by decide +kernel
theorem dX12_undo_44 : decode cX12_undo 44 = .ok (.aload_n 0, 1) := by decide +kernel
theorem dX12_undo_45 : decode cX12_undo 45 = .ok (.getfield 13, 3) := by decide +kernel
theorem dX12_undo_48 : decode cX12_undo 48 = .ok (.iload_n 1, 1) := by decide +kernel
theorem dX12_undo_49 : decode cX12_undo 49 = .ok (.aload_n 0, 1) := by decide +kernel
theorem dX12_undo_50 : decode cX12_undo 50 = .ok (.getfield 22, 3) := by decide +kernel
theorem dX12_undo_53 : decode cX12_undo 53 = .ok (.bipush 26, 2) := by decide +kernel
theorem dX12_undo_55 : decode cX12_undo 55 = .ok (.aload_n 0, 1) := by decide +kernel
theorem dX12_undo_56 : decode cX12_undo 56 = .ok (.getfield 141, 3) := by decide +kernel
theorem dX12_undo_59 : decode cX12_undo 59 = .ok (.imul, 1) := by decide +kernel
theorem dX12_undo_60 : decode cX12_undo 60 = .ok (.iload_n 1, 1) := by decide +kernel
theorem dX12_undo_61 : decode cX12_undo 61 = .ok (.iadd, 1) := by decide +kernel
theorem dX12_undo_62 : decode cX12_undo 62 = .ok (.iaload, 1) := by decide +kernel
theorem dX12_undo_63 : decode cX12_undo 63 = .ok (.iastore, 1) := by decide +kernel
theorem dX12_undo_64 : decode cX12_undo 64 = .ok (.iinc 1 1, 3) := by decide +kernel
theorem dX12_undo_67 : decode cX12_undo 67 = .ok (.goto (-29), 3) := by decide +kernel
theorem dX12_undo_70 : decode cX12_undo 70 = .ok (.aload_n 0, 1) := by decide +kernel
theorem dX12_undo_71 : decode cX12_undo 71 = .ok (.getfield 127, 3) := by decide +kernel
theorem dX12_undo_74 : decode cX12_undo 74 = .ok (.ireturn, 1) := by decide +kernel
theorem dX12_lengthOf_0 : decode cX12_lengthOf 0 = .ok (.iconst 0, 1) := by decide +kernel
theorem dX12_lengthOf_1 : decode cX12_lengthOf 1 = .ok (.istore_n 1, 1) := by decide +kernel
theorem dX12_lengthOf_2 : decode cX12_lengthOf 2 = .ok (.iconst 2, 1) := by decide +kernel
theorem dX12_lengthOf_3 : decode cX12_lengthOf 3 = .ok (.iload_n 1, 1) := by decide +kernel
theorem dX12_lengthOf_4 : decode cX12_lengthOf 4 = .ok (.ishl, 1) := by decide +kernel
theorem dX12_lengthOf_5 : decode cX12_lengthOf 5 = .ok (.iconst 1, 1) := by decide +kernel
theorem dX12_lengthOf_6 : decode cX12_lengthOf 6 = .ok (.isub, 1) := by decide +kernel
theorem dX12_lengthOf_7 : decode cX12_lengthOf 7 = .ok (.iload_n 0, 1) := by decide +kernel
theorem dX12_lengthOf_8 : decode cX12_lengthOf 8 = .ok (.if_icmp .gt 9, 3) := by decide +kernel
theorem dX12_lengthOf_11 : decode cX12_lengthOf 11 = .ok (.iinc 1 1, 3) := by decide +kernel
theorem dX12_lengthOf_14 : decode cX12_lengthOf 14 = .ok (.goto (-12), 3) := by decide +kernel
theorem dX12_lengthOf_17 : decode cX12_lengthOf 17 = .ok (.iload_n 1, 1) := by decide +kernel
theorem dX12_lengthOf_18 : decode cX12_lengthOf 18 = .ok (.ireturn, 1) := by decide +kernel
theorem dX12_holds_0 : decode cX12_holds 0 = .ok (.iconst 1, 1) := by decide +kernel
theorem dX12_holds_1 : decode cX12_holds 1 = .ok (.istore_n 3, 1) := by decide +kernel
theorem dX12_holds_2 : decode cX12_holds 2 = .ok (.iconst 0, 1) := by decide +kernel
theorem dX12_holds_3 : decode cX12_holds 3 = .ok (.istore 4, 2) := by decide +kernel
theorem dX12_holds_5 : decode cX12_holds 5 = .ok (.iload 4, 2) := by decide +kernel
theorem dX12_holds_7 : decode cX12_holds 7 = .ok (.aload_n 0, 1) := by decide +kernel
theorem dX12_holds_8 : decode cX12_holds 8 = .ok (.getfield 77, 3) := by decide +kernel
theorem dX12_holds_11 : decode cX12_holds 11 = .ok (.if_icmp .ge 115, 3) := by decide +kernel
theorem dX12_holds_14 : decode cX12_holds 14 = .ok (.aload_n 0, 1) := by decide +kernel
theorem dX12_holds_15 : decode cX12_holds 15 = .ok (.getfield 32, 3) := by decide +kernel
theorem dX12_holds_18 : decode cX12_holds 18 = .ok (.iconst 3, 1) := by decide +kernel
theorem dX12_holds_19 : decode cX12_holds 19 = .ok (.iload 4, 2) := by decide +kernel
theorem dX12_holds_21 : decode cX12_holds 21 = .ok (.imul, 1) := by decide +kernel
theorem dX12_holds_22 : decode cX12_holds 22 = .ok (.iconst 2, 1) := by decide +kernel
theorem dX12_holds_23 : decode cX12_holds 23 = .ok (.iadd, 1) := by decide +kernel
theorem dX12_holds_24 : decode cX12_holds 24 = .ok (.iaload, 1) := by decide +kernel
theorem dX12_holds_25 : decode cX12_holds 25 = .ok (.istore 5, 2) := by decide +kernel
theorem dX12_holds_27 : decode cX12_holds 27 = .ok (.aload_n 0, 1) := by decide +kernel
theorem dX12_holds_28 : decode cX12_holds 28 = .ok (.getfield 32, 3) := by decide +kernel
theorem dX12_holds_31 : decode cX12_holds 31 = .ok (.iconst 3, 1) := by decide +kernel
theorem dX12_holds_32 : decode cX12_holds 32 = .ok (.iload 4, 2) := by decide +kernel
theorem dX12_holds_34 : decode cX12_holds 34 = .ok (.imul, 1) := by decide +kernel
theorem dX12_holds_35 : decode cX12_holds 35 = .ok (.iconst 1, 1) := by decide +kernel
theorem dX12_holds_36 : decode cX12_holds 36 = .ok (.iadd, 1) := by decide +kernel
theorem dX12_holds_37 : decode cX12_holds 37 = .ok (.iaload, 1) := by decide +kernel
theorem dX12_holds_38 : decode cX12_holds 38 = .ok (.istore 6, 2) := by decide +kernel
theorem dX12_holds_40 : decode cX12_holds 40 = .ok (.iload 6, 2) := by decide +kernel
theorem dX12_holds_42 : decode cX12_holds 42 = .ok (.ifCond .ne 17, 3) := by decide +kernel
theorem dX12_holds_45 : decode cX12_holds 45 = .ok (.iload_n 2, 1) := by decide +kernel
theorem dX12_holds_46 : decode cX12_holds 46 = .ok (.iload 5, 2) := by decide +kernel
theorem dX12_holds_48 : decode cX12_holds 48 = .ok (.if_icmp .ge 7, 3) := by decide +kernel
theorem dX12_holds_51 : decode cX12_holds 51 = .ok (.iconst 1, 1) := by decide +kernel
theorem dX12_holds_52 : decode cX12_holds 52 = .ok (.goto 38, 3) := by decide +kernel
theorem dX12_holds_55 : decode cX12_holds 55 = .ok (.iconst 0, 1) := by decide +kernel
theorem dX12_holds_56 : decode cX12_holds 56 = .ok (.goto 34, 3) := by decide +kernel
theorem dX12_holds_59 : decode cX12_holds 59 = .ok (.iload 6, 2) := by decide +kernel
theorem dX12_holds_61 : decode cX12_holds 61 = .ok (.iconst 1, 1) := by decide +kernel
theorem dX12_holds_62 : decode cX12_holds 62 = .ok (.if_icmp .ne 17, 3) := by decide +kernel
theorem dX12_holds_65 : decode cX12_holds 65 = .ok (.iload_n 2, 1) := by decide +kernel
theorem dX12_holds_66 : decode cX12_holds 66 = .ok (.iload 5, 2) := by decide +kernel
theorem dX12_holds_68 : decode cX12_holds 68 = .ok (.if_icmp .ne 7, 3) := by decide +kernel
theorem dX12_holds_71 : decode cX12_holds 71 = .ok (.iconst 1, 1) := by decide +kernel
theorem dX12_holds_72 : decode cX12_holds 72 = .ok (.goto 18, 3) := by decide +kernel
theorem dX12_holds_75 : decode cX12_holds 75 = .ok (.iconst 0, 1) := by decide +kernel
theorem dX12_holds_76 : decode cX12_holds 76 = .ok (.goto 14, 3) := by decide +kernel
theorem dX12_holds_79 : decode cX12_holds 79 = .ok (.iload_n 2, 1) := by decide +kernel
theorem dX12_holds_80 : decode cX12_holds 80 = .ok (.iload 5, 2) := by decide +kernel
theorem dX12_holds_82 : decode cX12_holds 82 = .ok (.if_icmp .le 7, 3) := by decide +kernel
theorem dX12_holds_85 : decode cX12_holds 85 = .ok (.iconst 1, 1) := by decide +kernel
theorem dX12_holds_86 : decode cX12_holds 86 = .ok (.goto 4, 3) := by decide +kernel
theorem dX12_holds_89 : decode cX12_holds 89 = .ok (.iconst 0, 1) := by decide +kernel
theorem dX12_holds_90 : decode cX12_holds 90 = .ok (.istore 7, 2) := by decide +kernel
theorem dX12_holds_92 : decode cX12_holds 92 = .ok (.iload_n 3, 1) := by decide +kernel
theorem dX12_holds_93 : decode cX12_holds 93 = .ok (.ifCond .eq 25, 3) := by decide +kernel
theorem dX12_holds_96 : decode cX12_holds 96 = .ok (.aload_n 0, 1) := by decide +kernel
theorem dX12_holds_97 : decode cX12_holds 97 = .ok (.getfield 32, 3) := by decide +kernel
theorem dX12_holds_100 : decode cX12_holds 100 = .ok (.iconst 3, 1) := by decide +kernel
theorem dX12_holds_101 : decode cX12_holds 101 = .ok (.iload 4, 2) := by decide +kernel
theorem dX12_holds_103 : decode cX12_holds 103 = .ok (.imul, 1) := by decide +kernel
theorem dX12_holds_104 : decode cX12_holds 104 = .ok (.iaload, 1) := by decide +kernel
theorem dX12_holds_105 : decode cX12_holds 105 = .ok (.iload_n 1, 1) := by decide +kernel
theorem dX12_holds_106 : decode cX12_holds 106 = .ok (.if_icmp .ne 8, 3) := by decide +kernel
theorem dX12_holds_109 : decode cX12_holds 109 = .ok (.iload 7, 2) := by decide +kernel
theorem dX12_holds_111 : decode cX12_holds 111 = .ok (.ifCond .eq 7, 3) := by decide +kernel
theorem dX12_holds_114 : decode cX12_holds 114 = .ok (.iconst 1, 1) := by decide +kernel
theorem dX12_holds_115 : decode cX12_holds 115 = .ok (.goto 4, 3) := by decide +kernel
theorem dX12_holds_118 : decode cX12_holds 118 = .ok (.iconst 0, 1) := by decide +kernel
theorem dX12_holds_119 : decode cX12_holds 119 = .ok (.istore_n 3, 1) := by decide +kernel
theorem dX12_holds_120 : decode cX12_holds 120 = .ok (.iinc 4 1, 3) := by decide +kernel
theorem dX12_holds_123 : decode cX12_holds 123 = .ok (.goto (-118), 3) := by decide +kernel
theorem dX12_holds_126 : decode cX12_holds 126 = .ok (.iload_n 3, 1) := by decide +kernel
theorem dX12_holds_127 : decode cX12_holds 127 = .ok (.ireturn, 1) := by decide +kernel
theorem dX12_isSolution_0 : decode cX12_isSolution 0 = .ok (.iconst 1, 1) := by decide +kernel
theorem dX12_isSolution_1 : decode cX12_isSolution 1 = .ok (.istore_n 2, 1) := by decide +kernel
theorem dX12_isSolution_2 : decode cX12_isSolution 2 = .ok (.iconst 0, 1) := by decide +kernel
theorem dX12_isSolution_3 : decode cX12_isSolution 3 = .ok (.istore_n 3, 1) := by decide +kernel
theorem dX12_isSolution_4 : decode cX12_isSolution 4 = .ok (.iload_n 3, 1) := by decide +kernel
theorem dX12_isSolution_5 : decode cX12_isSolution 5 = .ok (.iconst 4, 1) := by decide +kernel
theorem dX12_isSolution_6 : decode cX12_isSolution 6 = .ok (.if_icmp .ge 36, 3) := by decide +kernel
theorem dX12_isSolution_9 : decode cX12_isSolution 9 = .ok (.iload_n 2, 1) := by decide +kernel
theorem dX12_isSolution_10 : decode cX12_isSolution 10 = .ok (.ifCond .eq 24, 3) := by decide +kernel
theorem dX12_isSolution_13 : decode cX12_isSolution 13 = .ok (.aload_n 0, 1) := by decide +kernel
theorem dX12_isSolution_14 : decode cX12_isSolution 14 = .ok (.iload_n 3, 1) := by decide +kernel
theorem dX12_isSolution_15 : decode cX12_isSolution 15 = .ok (.aload_n 0, 1) := by decide +kernel
theorem dX12_isSolution_16 : decode cX12_isSolution 16 = .ok (.getfield 44, 3) := by decide +kernel
theorem dX12_isSolution_19 : decode cX12_isSolution 19 = .ok (.iload_n 3, 1) := by decide +kernel
theorem dX12_isSolution_20 : decode cX12_isSolution 20 = .ok (.iaload, 1) := by decide +kernel
theorem dX12_isSolution_21 : decode cX12_isSolution 21 = .ok (.invokestatic 166, 3) := by decide +kernel
theorem dX12_isSolution_24 : decode cX12_isSolution 24 = .ok (.invokevirtual 169, 3) := by decide +kernel
theorem dX12_isSolution_27 : decode cX12_isSolution 27 = .ok (.ifCond .eq 7, 3) := by decide +kernel
theorem dX12_isSolution_30 : decode cX12_isSolution 30 = .ok (.iconst 1, 1) := by decide +kernel
theorem dX12_isSolution_31 : decode cX12_isSolution 31 = .ok (.goto 4, 3) := by decide +kernel
theorem dX12_isSolution_34 : decode cX12_isSolution 34 = .ok (.iconst 0, 1) := by decide +kernel
theorem dX12_isSolution_35 : decode cX12_isSolution 35 = .ok (.istore_n 2, 1) := by decide +kernel
theorem dX12_isSolution_36 : decode cX12_isSolution 36 = .ok (.iinc 3 1, 3) := by decide +kernel
theorem dX12_isSolution_39 : decode cX12_isSolution 39 = .ok (.goto (-35), 3) := by decide +kernel
theorem dX12_isSolution_42 : decode cX12_isSolution 42 = .ok (.iconst 0, 1) := by decide +kernel
theorem dX12_isSolution_43 : decode cX12_isSolution 43 = .ok (.istore_n 3, 1) := by decide +kernel
theorem dX12_isSolution_44 : decode cX12_isSolution 44 = .ok (.iload_n 3, 1) := by decide +kernel
theorem dX12_isSolution_45 : decode cX12_isSolution 45 = .ok (.iconst 2, 1) := by decide +kernel
theorem dX12_isSolution_46 : decode cX12_isSolution 46 = .ok (.if_icmp .ge 163, 3) := by decide +kernel
