theorem dX7_takeRuleBack_106 : decode cX7_takeRuleBack 106 = .ok (.iconst 1, 1) := by decide +kernel
theorem dX7_takeRuleBack_107 : decode cX7_takeRuleBack 107 = .ok (.ireturn, 1) := by decide +kernel
theorem dX7_takeRuleBack_108 : decode cX7_takeRuleBack 108 = .ok (.aload_n 2, 1) := by decide +kernel
theorem dX7_takeRuleBack_109 : decode cX7_takeRuleBack 109 = .ok (.iload 4, 2) := by decide +kernel
theorem dX7_takeRuleBack_111 : decode cX7_takeRuleBack 111 = .ok (.iload 5, 2) := by decide +kernel
theorem dX7_takeRuleBack_113 : decode cX7_takeRuleBack 113 = .ok (.invokevirtual 83, 3) := by decide +kernel
theorem dX7_takeRuleBack_116 : decode cX7_takeRuleBack 116 = .ok (.ireturn, 1) := by decide +kernel
theorem dX7_takeRuleBack_117 : decode cX7_takeRuleBack 117 = .ok (.aload_n 2, 1) := by decide +kernel
theorem dX7_takeRuleBack_118 : decode cX7_takeRuleBack 118 = .ok (.iload 5, 2) := by decide +kernel
theorem dX7_takeRuleBack_120 : decode cX7_takeRuleBack 120 = .ok (.iload 4, 2) := by decide +kernel
theorem dX7_takeRuleBack_122 : decode cX7_takeRuleBack 122 = .ok (.invokevirtual 83, 3) := by decide +kernel
theorem dX7_takeRuleBack_125 : decode cX7_takeRuleBack 125 = .ok (.ireturn, 1) := by decide +kernel
theorem dX7_takeRuleBack_126 : decode cX7_takeRuleBack 126 = .ok (.iconst 1, 1) := by decide +kernel
theorem dX7_takeRuleBack_127 : decode cX7_takeRuleBack 127 = .ok (.ireturn, 1) := by decide +kernel
theorem dX7_isNode_0 : decode cX7_isNode 0 = .ok (.iload_n 1, 1) := by decide +kernel
theorem dX7_isNode_1 : decode cX7_isNode 1 = .ok (.ifCond .lt 22, 3) := by decide +kernel
theorem dX7_isNode_4 : decode cX7_isNode 4 = .ok (.iload_n 1, 1) := by decide +kernel
theorem dX7_isNode_5 : decode cX7_isNode 5 = .ok (.aload_n 0, 1) := by decide +kernel
theorem dX7_isNode_6 : decode cX7_isNode 6 = .ok (.getfield 28, 3) := by decide +kernel
theorem dX7_isNode_9 : decode cX7_isNode 9 = .ok (.if_icmp .ge 14, 3) := by decide +kernel
theorem dX7_isNode_12 : decode cX7_isNode 12 = .ok (.iload_n 1, 1) := by decide +kernel
theorem dX7_isNode_13 : decode cX7_isNode 13 = .ok (.sipush 200, 3) := by decide +kernel
theorem dX7_isNode_16 : decode cX7_isNode 16 = .ok (.if_icmp .ge 7, 3) := by decide +kernel
theorem dX7_isNode_19 : decode cX7_isNode 19 = .ok (.iconst 1, 1) := by decide +kernel
theorem dX7_isNode_20 : decode cX7_isNode 20 = .ok (.goto 4, 3) := by decide +kernel
theorem dX7_isNode_23 : decode cX7_isNode 23 = .ok (.iconst 0, 1) := by decide +kernel
theorem dX7_isNode_24 : decode cX7_isNode 24 = .ok (.ireturn, 1) := by decide +kernel
theorem dX7_addChildren_0 : decode cX7_addChildren 0 = .ok (.aload_n 0, 1) := by decide +kernel
theorem dX7_addChildren_1 : decode cX7_addChildren 1 = .ok (.iload_n 1, 1) := by decide +kernel
theorem dX7_addChildren_2 : decode cX7_addChildren 2 = .ok (.invokevirtual 56, 3) := by decide +kernel
theorem dX7_addChildren_5 : decode cX7_addChildren 5 = .ok (.ifCond .ne 4, 3) := by decide +kernel
theorem dX7_addChildren_8 : decode cX7_addChildren 8 = .ok (.return_, 1) := by decide +kernel
theorem dX7_addChildren_9 : decode cX7_addChildren 9 = .ok (.aload_n 0, 1) := by decide +kernel
theorem dX7_addChildren_10 : decode cX7_addChildren 10 = .ok (.getfield 11, 3) := by decide +kernel
theorem dX7_addChildren_13 : decode cX7_addChildren 13 = .ok (.iload_n 1, 1) := by decide +kernel
theorem dX7_addChildren_14 : decode cX7_addChildren 14 = .ok (.laload, 1) := by decide +kernel
theorem dX7_addChildren_15 : decode cX7_addChildren 15 = .ok (.invokestatic 73, 3) := by decide +kernel
theorem dX7_addChildren_18 : decode cX7_addChildren 18 = .ok (.istore_n 2, 1) := by decide +kernel
theorem dX7_addChildren_19 : decode cX7_addChildren 19 = .ok (.aload_n 0, 1) := by decide +kernel
theorem dX7_addChildren_20 : decode cX7_addChildren 20 = .ok (.getfield 15, 3) := by decide +kernel
theorem dX7_addChildren_23 : decode cX7_addChildren 23 = .ok (.iload_n 1, 1) := by decide +kernel
theorem dX7_addChildren_24 : decode cX7_addChildren 24 = .ok (.laload, 1) := by decide +kernel
theorem dX7_addChildren_25 : decode cX7_addChildren 25 = .ok (.invokestatic 73, 3) := by decide +kernel
theorem dX7_addChildren_28 : decode cX7_addChildren 28 = .ok (.istore_n 3, 1) := by decide +kernel
theorem dX7_addChildren_29 : decode cX7_addChildren 29 = .ok (.iload_n 2, 1) := by decide +kernel
theorem dX7_addChildren_30 : decode cX7_addChildren 30 = .ok (.iload_n 3, 1) := by decide +kernel
theorem dX7_addChildren_31 : decode cX7_addChildren 31 = .ok (.if_icmp .ne 28, 3) := by decide +kernel
theorem dX7_addChildren_34 : decode cX7_addChildren 34 = .ok (.aload_n 0, 1) := by decide +kernel
theorem dX7_addChildren_35 : decode cX7_addChildren 35 = .ok (.iload_n 1, 1) := by decide +kernel
theorem dX7_addChildren_36 : decode cX7_addChildren 36 = .ok (.iconst 0, 1) := by decide +kernel
theorem dX7_addChildren_37 : decode cX7_addChildren 37 = .ok (.aload_n 0, 1) := by decide +kernel
theorem dX7_addChildren_38 : decode cX7_addChildren 38 = .ok (.getfield 11, 3) := by decide +kernel
theorem dX7_addChildren_41 : decode cX7_addChildren 41 = .ok (.iload_n 1, 1) := by decide +kernel
theorem dX7_addChildren_42 : decode cX7_addChildren 42 = .ok (.laload, 1) := by decide +kernel
theorem dX7_addChildren_43 : decode cX7_addChildren 43 = .ok (.invokestatic 87, 3) := by decide +kernel
theorem dX7_addChildren_46 : decode cX7_addChildren 46 = .ok (.aload_n 0, 1) := by decide +kernel
theorem dX7_addChildren_47 : decode cX7_addChildren 47 = .ok (.getfield 15, 3) := by decide +kernel
theorem dX7_addChildren_50 : decode cX7_addChildren 50 = .ok (.iload_n 1, 1) := by decide +kernel
theorem dX7_addChildren_51 : decode cX7_addChildren 51 = .ok (.laload, 1) := by decide +kernel
theorem dX7_addChildren_52 : decode cX7_addChildren 52 = .ok (.invokestatic 87, 3) := by decide +kernel
theorem dX7_addChildren_55 : decode cX7_addChildren 55 = .ok (.invokevirtual 48, 3) := by decide +kernel
theorem dX7_addChildren_58 : decode cX7_addChildren 58 = .ok (.return_, 1) := by decide +kernel
theorem dX7_addChildren_59 : decode cX7_addChildren 59 = .ok (.iload_n 2, 1) := by decide +kernel
theorem dX7_addChildren_60 : decode cX7_addChildren 60 = .ok (.invokestatic 91, 3) := by decide +kernel
theorem dX7_addChildren_63 : decode cX7_addChildren 63 = .ok (.istore 4, 2) := by decide +kernel
theorem dX7_addChildren_65 : decode cX7_addChildren 65 = .ok (.iload_n 3, 1) := by decide +kernel
theorem dX7_addChildren_66 : decode cX7_addChildren 66 = .ok (.invokestatic 91, 3) := by decide +kernel
theorem dX7_addChildren_69 : decode cX7_addChildren 69 = .ok (.istore 5, 2) := by decide +kernel
theorem dX7_addChildren_71 : decode cX7_addChildren 71 = .ok (.iload 4, 2) := by decide +kernel
theorem dX7_addChildren_73 : decode cX7_addChildren 73 = .ok (.ifCond .eq 10, 3) := by decide +kernel
theorem dX7_addChildren_76 : decode cX7_addChildren 76 = .ok (.aload_n 0, 1) := by decide +kernel
theorem dX7_addChildren_77 : decode cX7_addChildren 77 = .ok (.iload_n 1, 1) := by decide +kernel
theorem dX7_addChildren_78 : decode cX7_addChildren 78 = .ok (.iconst 1, 1) := by decide +kernel
theorem dX7_addChildren_79 : decode cX7_addChildren 79 = .ok (.iload_n 2, 1) := by decide +kernel
theorem dX7_addChildren_80 : decode cX7_addChildren 80 = .ok (.invokevirtual 94, 3) := by decide +kernel
theorem dX7_addChildren_83 : decode cX7_addChildren 83 = .ok (.iload 5, 2) := by decide +kernel
theorem dX7_addChildren_85 : decode cX7_addChildren 85 = .ok (.ifCond .eq 10, 3) := by decide +kernel
theorem dX7_addChildren_88 : decode cX7_addChildren 88 = .ok (.aload_n 0, 1) := by decide +kernel
theorem dX7_addChildren_89 : decode cX7_addChildren 89 = .ok (.iload_n 1, 1) := by decide +kernel
theorem dX7_addChildren_90 : decode cX7_addChildren 90 = .ok (.iconst 2, 1) := by decide +kernel
theorem dX7_addChildren_91 : decode cX7_addChildren 91 = .ok (.iload_n 3, 1) := by decide +kernel
theorem dX7_addChildren_92 : decode cX7_addChildren 92 = .ok (.invokevirtual 94, 3) := by decide +kernel
theorem dX7_addChildren_95 : decode cX7_addChildren 95 = .ok (.iload 4, 2) := by decide +kernel
theorem dX7_addChildren_97 : decode cX7_addChildren 97 = .ok (.ifCond .eq 15, 3) := by decide +kernel
theorem dX7_addChildren_100 : decode cX7_addChildren 100 = .ok (.iload_n 3, 1) := by decide +kernel
theorem dX7_addChildren_101 : decode cX7_addChildren 101 = .ok (.ifCond .eq 11, 3) := by decide +kernel
theorem dX7_addChildren_104 : decode cX7_addChildren 104 = .ok (.aload_n 0, 1) := by decide +kernel
theorem dX7_addChildren_105 : decode cX7_addChildren 105 = .ok (.iload_n 1, 1) := by decide +kernel
theorem dX7_addChildren_106 : decode cX7_addChildren 106 = .ok (.iconst 3, 1) := by decide +kernel
theorem dX7_addChildren_107 : decode cX7_addChildren 107 = .ok (.iload_n 2, 1) := by decide +kernel
theorem dX7_addChildren_108 : decode cX7_addChildren 108 = .ok (.iload_n 3, 1) := by decide +kernel
theorem dX7_addChildren_109 : decode cX7_addChildren 109 = .ok (.invokevirtual 98, 3) := by decide +kernel
theorem dX7_addChildren_112 : decode cX7_addChildren 112 = .ok (.iload 5, 2) := by decide +kernel
theorem dX7_addChildren_114 : decode cX7_addChildren 114 = .ok (.ifCond .eq 15, 3) := by decide +kernel
theorem dX7_addChildren_117 : decode cX7_addChildren 117 = .ok (.iload_n 2, 1) := by decide +kernel
theorem dX7_addChildren_118 : decode cX7_addChildren 118 = .ok (.ifCond .eq 11, 3) := by decide +kernel
theorem dX7_addChildren_121 : decode cX7_addChildren 121 = .ok (.aload_n 0, 1) := by decide +kernel
theorem dX7_addChildren_122 : decode cX7_addChildren 122 = .ok (.iload_n 1, 1) := by decide +kernel
theorem dX7_addChildren_123 : decode cX7_addChildren 123 = .ok (.iconst 4, 1) := by decide +kernel
theorem dX7_addChildren_124 : decode cX7_addChildren 124 = .ok (.iload_n 3, 1) := by decide +kernel
theorem dX7_addChildren_125 : decode cX7_addChildren 125 = .ok (.iload_n 2, 1) := by decide +kernel
theorem dX7_addChildren_126 : decode cX7_addChildren 126 = .ok (.invokevirtual 98, 3) := by decide +kernel
theorem dX7_addChildren_129 : decode cX7_addChildren 129 = .ok (.return_, 1) := by decide +kernel
theorem dX7_addWithout_0 : decode cX7_addWithout 0 = .ok (.aload_n 0, 1) := by decide +kernel
theorem dX7_addWithout_1 : decode cX7_addWithout 1 = .ok (.getfield 11, 3) := by decide +kernel
theorem dX7_addWithout_4 : decode cX7_addWithout 4 = .ok (.iload_n 1, 1) := by decide +kernel
theorem dX7_addWithout_5 : decode cX7_addWithout 5 = .ok (.laload, 1) := by decide +kernel
theorem dX7_addWithout_6 : decode cX7_addWithout 6 = .ok (.iload_n 3, 1) := by decide +kernel
theorem dX7_addWithout_7 : decode cX7_addWithout 7 = .ok (.lconst 0, 1) := by decide +kernel
theorem dX7_addWithout_8 : decode cX7_addWithout 8 = .ok (.invokestatic 102, 3) := by decide +kernel
theorem dX7_addWithout_11 : decode cX7_addWithout 11 = .ok (.lstore 4, 2) := by decide +kernel
theorem dX7_addWithout_13 : decode cX7_addWithout 13 = .ok (.aload_n 0, 1) := by decide +kernel
theorem dX7_addWithout_14 : decode cX7_addWithout 14 = .ok (.getfield 15, 3) := by decide +kernel
theorem dX7_addWithout_17 : decode cX7_addWithout 17 = .ok (.iload_n 1, 1) := by decide +kernel
theorem dX7_addWithout_18 : decode cX7_addWithout 18 = .ok (.laload, 1) := by decide +kernel
theorem dX7_addWithout_19 : decode cX7_addWithout 19 = .ok (.iload_n 3, 1) := by decide +kernel
theorem dX7_addWithout_20 : decode cX7_addWithout 20 = .ok (.lconst 0, 1) := by decide +kernel
theorem dX7_addWithout_21 : decode cX7_addWithout 21 = .ok (.invokestatic 102, 3) := by decide +kernel
theorem dX7_addWithout_24 : decode cX7_addWithout 24 = .ok (.lstore 6, 2) := by decide +kernel
theorem dX7_addWithout_26 : decode cX7_addWithout 26 = .ok (.aload_n 0, 1) := by decide +kernel
theorem dX7_addWithout_27 : decode cX7_addWithout 27 = .ok (.iload_n 1, 1) := by decide +kernel
theorem dX7_addWithout_28 : decode cX7_addWithout 28 = .ok (.iload_n 2, 1) := by decide +kernel
theorem dX7_addWithout_29 : decode cX7_addWithout 29 = .ok (.lload 4, 2) := by decide +kernel
theorem dX7_addWithout_31 : decode cX7_addWithout 31 = .ok (.lload 6, 2) := by decide +kernel
theorem dX7_addWithout_33 : decode cX7_addWithout 33 = .ok (.invokevirtual 48, 3) := by decide +kernel
theorem dX7_addWithout_36 : decode cX7_addWithout 36 = .ok (.return_, 1) := by decide +kernel
theorem dX7_addLonger_0 : decode cX7_addLonger 0 = .ok (.bipush 13, 2) := by decide +kernel
theorem dX7_addLonger_2 : decode cX7_addLonger 2 = .ok (.istore 5, 2) := by decide +kernel
theorem dX7_addLonger_4 : decode cX7_addLonger 4 = .ok (.aload_n 0, 1) := by decide +kernel
theorem dX7_addLonger_5 : decode cX7_addLonger 5 = .ok (.getfield 11, 3) := by decide +kernel
theorem dX7_addLonger_8 : decode cX7_addLonger 8 = .ok (.iload_n 1, 1) := by decide +kernel
theorem dX7_addLonger_9 : decode cX7_addLonger 9 = .ok (.laload, 1) := by decide +kernel
theorem dX7_addLonger_10 : decode cX7_addLonger 10 = .ok (.iload_n 3, 1) := by decide +kernel
theorem dX7_addLonger_11 : decode cX7_addLonger 11 = .ok (.iconst 2, 1) := by decide +kernel
theorem dX7_addLonger_12 : decode cX7_addLonger 12 = .ok (.invokestatic 106, 3) := by decide +kernel
theorem dX7_addLonger_15 : decode cX7_addLonger 15 = .ok (.iload 5, 2) := by decide +kernel
theorem dX7_addLonger_17 : decode cX7_addLonger 17 = .ok (.if_icmp .gt 19, 3) := by decide +kernel
theorem dX7_addLonger_20 : decode cX7_addLonger 20 = .ok (.aload_n 0, 1) := by decide +kernel
theorem dX7_addLonger_21 : decode cX7_addLonger 21 = .ok (.getfield 15, 3) := by decide +kernel
theorem dX7_addLonger_24 : decode cX7_addLonger 24 = .ok (.iload_n 1, 1) := by decide +kernel
theorem dX7_addLonger_25 : decode cX7_addLonger 25 = .ok (.laload, 1) := by decide +kernel
theorem dX7_addLonger_26 : decode cX7_addLonger 26 = .ok (.iload_n 3, 1) := by decide +kernel
theorem dX7_addLonger_27 : decode cX7_addLonger 27 = .ok (.iconst 2, 1) := by decide +kernel
theorem dX7_addLonger_28 : decode cX7_addLonger 28 = .ok (.invokestatic 106, 3) := by decide +kernel
theorem dX7_addLonger_31 : decode cX7_addLonger 31 = .ok (.iload 5, 2) := by decide +kernel
theorem dX7_addLonger_33 : decode cX7_addLonger 33 = .ok (.if_icmp .le 9, 3) := by decide +kernel
theorem dX7_addLonger_36 : decode cX7_addLonger 36 = .ok (.aload_n 0, 1) := by decide +kernel
theorem dX7_addLonger_37 : decode cX7_addLonger 37 = .ok (.iconst 1, 1) := by decide +kernel
theorem dX7_addLonger_38 : decode cX7_addLonger 38 = .ok (.putfield 35, 3) := by decide +kernel
theorem dX7_addLonger_41 : decode cX7_addLonger 41 = .ok (.return_, 1) := by decide +kernel
theorem dX7_addLonger_42 : decode cX7_addLonger 42 = .ok (.iload 4, 2) := by decide +kernel
theorem dX7_addLonger_44 : decode cX7_addLonger 44 = .ok (.iconst 0, 1) := by decide +kernel
theorem dX7_addLonger_45 : decode cX7_addLonger 45 = .ok (.invokestatic 110, 3) := by decide +kernel
theorem dX7_addLonger_48 : decode cX7_addLonger 48 = .ok (.iload_n 3, 1) := by decide +kernel
theorem dX7_addLonger_49 : decode cX7_addLonger 49 = .ok (.iconst 1, 1) := by decide +kernel
theorem dX7_addLonger_50 : decode cX7_addLonger 50 = .ok (.invokestatic 110, 3) := by decide +kernel
theorem dX7_addLonger_53 : decode cX7_addLonger 53 = .ok (.lor, 1) := by decide +kernel
theorem dX7_addLonger_54 : decode cX7_addLonger 54 = .ok (.lstore 6, 2) := by decide +kernel
theorem dX7_addLonger_56 : decode cX7_addLonger 56 = .ok (.aload_n 0, 1) := by decide +kernel
theorem dX7_addLonger_57 : decode cX7_addLonger 57 = .ok (.getfield 11, 3) := by decide +kernel
theorem dX7_addLonger_60 : decode cX7_addLonger 60 = .ok (.iload_n 1, 1) := by decide +kernel
theorem dX7_addLonger_61 : decode cX7_addLonger 61 = .ok (.laload, 1) := by decide +kernel
theorem dX7_addLonger_62 : decode cX7_addLonger 62 = .ok (.iload_n 3, 1) := by decide +kernel
theorem dX7_addLonger_63 : decode cX7_addLonger 63 = .ok (.lload 6, 2) := by decide +kernel
theorem dX7_addLonger_65 : decode cX7_addLonger 65 = .ok (.invokestatic 102, 3) := by decide +kernel
theorem dX7_addLonger_68 : decode cX7_addLonger 68 = .ok (.lstore 8, 2) := by decide +kernel
theorem dX7_addLonger_70 : decode cX7_addLonger 70 = .ok (.aload_n 0, 1) := by decide +kernel
theorem dX7_addLonger_71 : decode cX7_addLonger 71 = .ok (.getfield 15, 3) := by decide +kernel
theorem dX7_addLonger_74 : decode cX7_addLonger 74 = .ok (.iload_n 1, 1) := by decide +kernel
theorem dX7_addLonger_75 : decode cX7_addLonger 75 = .ok (.laload, 1) := by decide +kernel
theorem dX7_addLonger_76 : decode cX7_addLonger 76 = .ok (.iload_n 3, 1) := by decide +kernel
theorem dX7_addLonger_77 : decode cX7_addLonger 77 = .ok (.lload 6, 2) := by decide +kernel
theorem dX7_addLonger_79 : decode cX7_addLonger 79 = .ok (.invokestatic 102, 3) := by decide +kernel
theorem dX7_addLonger_82 : decode cX7_addLonger 82 = .ok (.lstore 10, 2) := by decide +kernel
theorem dX7_addLonger_84 : decode cX7_addLonger 84 = .ok (.aload_n 0, 1) := by decide +kernel
theorem dX7_addLonger_85 : decode cX7_addLonger 85 = .ok (.iload_n 1, 1) := by decide +kernel
theorem dX7_addLonger_86 : decode cX7_addLonger 86 = .ok (.iload_n 2, 1) := by decide +kernel
theorem dX7_addLonger_87 : decode cX7_addLonger 87 = .ok (.lload 8, 2) := by decide +kernel
theorem dX7_addLonger_89 : decode cX7_addLonger 89 = .ok (.invokestatic 87, 3) := by decide +kernel
theorem dX7_addLonger_92 : decode cX7_addLonger 92 = .ok (.lload 10, 2) := by decide +kernel
theorem dX7_addLonger_94 : decode cX7_addLonger 94 = .ok (.invokestatic 87, 3) := by decide +kernel
theorem dX7_addLonger_97 : decode cX7_addLonger 97 = .ok (.invokevirtual 48, 3) := by decide +kernel
theorem dX7_addLonger_100 : decode cX7_addLonger 100 = .ok (.return_, 1) := by decide +kernel
theorem dX7_addNode_0 : decode cX7_addNode 0 = .ok (.aload_n 0, 1) := by decide +kernel
theorem dX7_addNode_1 : decode cX7_addNode 1 = .ok (.getfield 32, 3) := by decide +kernel
theorem dX7_addNode_4 : decode cX7_addNode 4 = .ok (.iconst (-1), 1) := by decide +kernel
theorem dX7_addNode_5 : decode cX7_addNode 5 = .ok (.if_icmp .ne 13, 3) := by decide +kernel
theorem dX7_addNode_8 : decode cX7_addNode 8 = .ok (.aload_n 0, 1) := by decide +kernel
theorem dX7_addNode_9 : decode cX7_addNode 9 = .ok (.lload_n 3, 1) := by decide +kernel
theorem dX7_addNode_10 : decode cX7_addNode 10 = .ok (.lload 5, 2) := by decide +kernel
theorem dX7_addNode_12 : decode cX7_addNode 12 = .ok (.invokevirtual 114, 3) := by decide +kernel
theorem dX7_addNode_15 : decode cX7_addNode 15 = .ok (.ifCond .eq 4, 3) := by decide +kernel
theorem dX7_addNode_18 : decode cX7_addNode 18 = .ok (.return_, 1) := by decide +kernel
theorem dX7_addNode_19 : decode cX7_addNode 19 = .ok (.aload_n 0, 1) := by decide +kernel
theorem dX7_addNode_20 : decode cX7_addNode 20 = .ok (.getfield 28, 3) := by decide +kernel
theorem dX7_addNode_23 : decode cX7_addNode 23 = .ok (.ifCond .lt 13, 3) := by decide +kernel
theorem dX7_addNode_26 : decode cX7_addNode 26 = .ok (.aload_n 0, 1) := by decide +kernel
theorem dX7_addNode_27 : decode cX7_addNode 27 = .ok (.getfield 28, 3) := by decide +kernel
theorem dX7_addNode_30 : decode cX7_addNode 30 = .ok (.sipush 200, 3) := by decide +kernel
theorem dX7_addNode_33 : decode cX7_addNode 33 = .ok (.if_icmp .lt 9, 3) := by decide +kernel
theorem dX7_addNode_36 : decode cX7_addNode 36 = .ok (.aload_n 0, 1) := by decide +kernel
theorem dX7_addNode_37 : decode cX7_addNode 37 = .ok (.iconst 1, 1) := by decide +kernel
theorem dX7_addNode_38 : decode cX7_addNode 38 = .ok (.putfield 35, 3) := by decide +kernel
theorem dX7_addNode_41 : decode cX7_addNode 41 = .ok (.return_, 1) := by decide +kernel
theorem dX7_addNode_42 : decode cX7_addNode 42 = .ok (.aload_n 0, 1) := by decide +kernel
theorem dX7_addNode_43 : decode cX7_addNode 43 = .ok (.getfield 11, 3) := by decide +kernel
theorem dX7_addNode_46 : decode cX7_addNode 46 = .ok (.aload_n 0, 1) := by decide +kernel
theorem dX7_addNode_47 : decode cX7_addNode 47 = .ok (.getfield 28, 3) := by decide +kernel
theorem dX7_addNode_50 : decode cX7_addNode 50 = .ok (.lload_n 3, 1) := by decide +kernel
theorem dX7_addNode_51 : decode cX7_addNode 51 = .ok (.lastore, 1) := by decide +kernel
theorem dX7_addNode_52 : decode cX7_addNode 52 = .ok (.aload_n 0, 1) := by decide +kernel
theorem dX7_addNode_53 : decode cX7_addNode 53 = .ok (.getfield 15, 3) := by decide +kernel
theorem dX7_addNode_56 : decode cX7_addNode 56 = .ok (.aload_n 0, 1) := by decide +kernel
theorem dX7_addNode_57 : decode cX7_addNode 57 = .ok (.getfield 28, 3) := by decide +kernel
theorem dX7_addNode_60 : decode cX7_addNode 60 = .ok (.lload 5, 2) := by decide +kernel
theorem dX7_addNode_62 : decode cX7_addNode 62 = .ok (.lastore, 1) := by decide +kernel
theorem dX7_addNode_63 : decode cX7_addNode 63 = .ok (.aload_n 0, 1) := by decide +kernel
theorem dX7_addNode_64 : decode cX7_addNode 64 = .ok (.getfield 18, 3) := by decide +kernel
theorem dX7_addNode_67 : decode cX7_addNode 67 = .ok (.aload_n 0, 1) := by decide +kernel
theorem dX7_addNode_68 : decode cX7_addNode 68 = .ok (.getfield 28, 3) := by decide +kernel
theorem dX7_addNode_71 : decode cX7_addNode 71 = .ok (.iload_n 1, 1) := by decide +kernel
theorem dX7_addNode_72 : decode cX7_addNode 72 = .ok (.iastore, 1) := by decide +kernel
theorem dX7_addNode_73 : decode cX7_addNode 73 = .ok (.aload_n 0, 1) := by decide +kernel
theorem dX7_addNode_74 : decode cX7_addNode 74 = .ok (.getfield 22, 3) := by decide +kernel
theorem dX7_addNode_77 : decode cX7_addNode 77 = .ok (.aload_n 0, 1) := by decide +kernel
theorem dX7_addNode_78 : decode cX7_addNode 78 = .ok (.getfield 28, 3) := by decide +kernel
theorem dX7_addNode_81 : decode cX7_addNode 81 = .ok (.iload_n 2, 1) := by decide +kernel
theorem dX7_addNode_82 : decode cX7_addNode 82 = .ok (.iastore, 1) := by decide +kernel
theorem dX7_addNode_83 : decode cX7_addNode 83 = .ok (.aload_n 0, 1) := by decide +kernel
theorem dX7_addNode_84 : decode cX7_addNode 84 = .ok (.getfield 25, 3) := by decide +kernel
theorem dX7_addNode_87 : decode cX7_addNode 87 = .ok (.aload_n 0, 1) := by decide +kernel
theorem dX7_addNode_88 : decode cX7_addNode 88 = .ok (.getfield 28, 3) := by decide +kernel
theorem dX7_addNode_91 : decode cX7_addNode 91 = .ok (.aload_n 0, 1) := by decide +kernel
theorem dX7_addNode_92 : decode cX7_addNode 92 = .ok (.iload_n 1, 1) := by decide +kernel
theorem dX7_addNode_93 : decode cX7_addNode 93 = .ok (.invokevirtual 56, 3) := by decide +kernel
theorem dX7_addNode_96 : decode cX7_addNode 96 = .ok (.ifCond .eq 14, 3) := by decide +kernel
theorem dX7_addNode_99 : decode cX7_addNode 99 = .ok (.aload_n 0, 1) := by decide +kernel
theorem dX7_addNode_100 : decode cX7_addNode 100 = .ok (.getfield 25, 3) := by decide +kernel
theorem dX7_addNode_103 : decode cX7_addNode 103 = .ok (.iload_n 1, 1) := by decide +kernel
theorem dX7_addNode_104 : decode cX7_addNode 104 = .ok (.iaload, 1) := by decide +kernel
theorem dX7_addNode_105 : decode cX7_addNode 105 = .ok (.iconst 1, 1) := by decide +kernel
theorem dX7_addNode_106 : decode cX7_addNode 106 = .ok (.iadd, 1) := by decide +kernel
theorem dX7_addNode_107 : decode cX7_addNode 107 = .ok (.goto 4, 3) := by decide +kernel
theorem dX7_addNode_110 : decode cX7_addNode 110 = .ok (.iconst 0, 1) := by decide +kernel
theorem dX7_addNode_111 : decode cX7_addNode 111 = .ok (.iastore, 1) := by decide +kernel
theorem dX7_addNode_112 : decode cX7_addNode 112 = .ok (.lload_n 3, 1) := by decide +kernel
theorem dX7_addNode_113 : decode cX7_addNode 113 = .ok (.lconst 0, 1) := by decide +kernel
theorem dX7_addNode_114 : decode cX7_addNode 114 = .ok (.lcmp, 1) := by decide +kernel
theorem dX7_addNode_115 : decode cX7_addNode 115 = .ok (.ifCond .ne 18, 3) := by decide +kernel
theorem dX7_addNode_118 : decode cX7_addNode 118 = .ok (.lload 5, 2) := by decide +kernel
theorem dX7_addNode_120 : decode cX7_addNode 120 = .ok (.lconst 0, 1) := by decide +kernel
theorem dX7_addNode_121 : decode cX7_addNode 121 = .ok (.lcmp, 1) := by decide +kernel
theorem dX7_addNode_122 : decode cX7_addNode 122 = .ok (.ifCond .ne 11, 3) := by decide +kernel
theorem dX7_addNode_125 : decode cX7_addNode 125 = .ok (.aload_n 0, 1) := by decide +kernel
theorem dX7_addNode_126 : decode cX7_addNode 126 = .ok (.aload_n 0, 1) := by decide +kernel
theorem dX7_addNode_127 : decode cX7_addNode 127 = .ok (.getfield 28, 3) := by decide +kernel
theorem dX7_addNode_130 : decode cX7_addNode 130 = .ok (.putfield 32, 3) := by decide +kernel
theorem dX7_addNode_133 : decode cX7_addNode 133 = .ok (.aload_n 0, 1) := by decide +kernel
theorem dX7_addNode_134 : decode cX7_addNode 134 = .ok (.dup, 1) := by decide +kernel
theorem dX7_addNode_135 : decode cX7_addNode 135 = .ok (.getfield 28, 3) := by decide +kernel
theorem dX7_addNode_138 : decode cX7_addNode 138 = .ok (.iconst 1, 1) := by decide +kernel
theorem dX7_addNode_139 : decode cX7_addNode 139 = .ok (.iadd, 1) := by decide +kernel
theorem dX7_addNode_140 : decode cX7_addNode 140 = .ok (.putfield 28, 3) := by decide +kernel
theorem dX7_addNode_143 : decode cX7_addNode 143 = .ok (.return_, 1) := by decide +kernel
theorem dX7_isKnown_0 : decode cX7_isKnown 0 = .ok (.iconst 0, 1) := by decide +kernel
theorem dX7_isKnown_1 : decode cX7_isKnown 1 = .ok (.istore 5, 2) := by decide +kernel
theorem dX7_isKnown_3 : decode cX7_isKnown 3 = .ok (.iload 5, 2) := by decide +kernel
theorem dX7_isKnown_5 : decode cX7_isKnown 5 = .ok (.aload_n 0, 1) := by decide +kernel
theorem dX7_isKnown_6 : decode cX7_isKnown 6 = .ok (.getfield 28, 3) := by decide +kernel
theorem dX7_isKnown_9 : decode cX7_isKnown 9 = .ok (.if_icmp .ge 43, 3) := by decide +kernel
theorem dX7_isKnown_12 : decode cX7_isKnown 12 = .ok (.iload 5, 2) := by decide +kernel
theorem dX7_isKnown_14 : decode cX7_isKnown 14 = .ok (.sipush 200, 3) := by decide +kernel
theorem dX7_isKnown_17 : decode cX7_isKnown 17 = .ok (.if_icmp .ge 35, 3) := by decide +kernel
theorem dX7_isKnown_20 : decode cX7_isKnown 20 = .ok (.aload_n 0, 1) := by decide +kernel
theorem dX7_isKnown_21 : decode cX7_isKnown 21 = .ok (.getfield 11, 3) := by decide +kernel
theorem dX7_isKnown_24 : decode cX7_isKnown 24 = .ok (.iload 5, 2) := by decide +kernel
theorem dX7_isKnown_26 : decode cX7_isKnown 26 = .ok (.laload, 1) := by decide +kernel
theorem dX7_isKnown_27 : decode cX7_isKnown 27 = .ok (.lload_n 1, 1) := by decide +kernel
theorem dX7_isKnown_28 : decode cX7_isKnown 28 = .ok (.lcmp, 1) := by decide +kernel
theorem dX7_isKnown_29 : decode cX7_isKnown 29 = .ok (.ifCond .ne 17, 3) := by decide +kernel
theorem dX7_isKnown_32 : decode cX7_isKnown 32 = .ok (.aload_n 0, 1) := by decide +kernel
theorem dX7_isKnown_33 : decode cX7_isKnown 33 = .ok (.getfield 15, 3) := by decide +kernel
theorem dX7_isKnown_36 : decode cX7_isKnown 36 = .ok (.iload 5, 2) := by decide +kernel
theorem dX7_isKnown_38 : decode cX7_isKnown 38 = .ok (.laload, 1) := by decide +kernel
theorem dX7_isKnown_39 : decode cX7_isKnown 39 = .ok (.lload_n 3, 1) := by decide +kernel
theorem dX7_isKnown_40 : decode cX7_isKnown 40 = .ok (.lcmp, 1) := by decide +kernel
theorem dX7_isKnown_41 : decode cX7_isKnown 41 = .ok (.ifCond .ne 5, 3) := by decide +kernel
theorem dX7_isKnown_44 : decode cX7_isKnown 44 = .ok (.iconst 1, 1) := by decide +kernel
theorem dX7_isKnown_45 : decode cX7_isKnown 45 = .ok (.ireturn, 1) := by decide +kernel
theorem dX7_isKnown_46 : decode cX7_isKnown 46 = .ok (.iinc 5 1, 3) := by decide +kernel
theorem dX7_isKnown_49 : decode cX7_isKnown 49 = .ok (.goto (-46), 3) := by decide +kernel
theorem dX7_isKnown_52 : decode cX7_isKnown 52 = .ok (.iconst 0, 1) := by decide +kernel
theorem dX7_isKnown_53 : decode cX7_isKnown 53 = .ok (.ireturn, 1) := by decide +kernel
theorem dX8_init_0 : decode cX8_init 0 = .ok (.aload_n 0, 1) := by decide +kernel
theorem dX8_init_1 : decode cX8_init 1 = .ok (.invokespecial 1, 3) := by decide +kernel
theorem dX8_init_4 : decode cX8_init 4 = .ok (.aload_n 0, 1) := by decide +kernel
theorem dX8_init_5 : decode cX8_init 5 = .ok (.new 7, 3) := by decide +kernel
theorem dX8_init_8 : decode cX8_init 8 = .ok (.dup, 1) := by decide +kernel
theorem dX8_init_9 : decode cX8_init 9 = .ok (.invokespecial 9, 3) := by decide +kernel
theorem dX8_init_12 : decode cX8_init 12 = .ok (.putfield 10, 3) := by decide +kernel
theorem dX8_init_15 : decode cX8_init 15 = .ok (.aload_n 0, 1) := by decide +kernel
theorem dX8_init_16 : decode cX8_init 16 = .ok (.aload_n 1, 1) := by decide +kernel
theorem dX8_init_17 : decode cX8_init 17 = .ok (.putfield 16, 3) := by decide +kernel
theorem dX8_init_20 : decode cX8_init 20 = .ok (.aload_n 0, 1) := by decide +kernel
theorem dX8_init_21 : decode cX8_init 21 = .ok (.aload_n 2, 1) := by decide +kernel
theorem dX8_init_22 : decode cX8_init 22 = .ok (.putfield 20, 3) := by decide +kernel
theorem dX8_init_25 : decode cX8_init 25 = .ok (.return_, 1) := by decide +kernel
theorem dX8_withoutLast_0 : decode cX8_withoutLast 0 = .ok (.lload_n 1, 1) := by decide +kernel
theorem dX8_withoutLast_1 : decode cX8_withoutLast 1 = .ok (.lstore_n 3, 1) := by decide +kernel
theorem dX8_withoutLast_2 : decode cX8_withoutLast 2 = .ok (.iconst 0, 1) := by decide +kernel
theorem dX8_withoutLast_3 : decode cX8_withoutLast 3 = .ok (.istore 5, 2) := by decide +kernel
theorem dX8_withoutLast_5 : decode cX8_withoutLast 5 = .ok (.iload 5, 2) := by decide +kernel
theorem dX8_withoutLast_7 : decode cX8_withoutLast 7 = .ok (.iload_n 0, 1) := by decide +kernel
theorem dX8_withoutLast_8 : decode cX8_withoutLast 8 = .ok (.if_icmp .ge 15, 3) := by decide +kernel
theorem dX8_withoutLast_11 : decode cX8_withoutLast 11 = .ok (.lload_n 3, 1) := by decide +kernel
theorem dX8_withoutLast_12 : decode cX8_withoutLast 12 = .ok (.ldc2_w 24, 3) := by decide +kernel
theorem dX8_withoutLast_15 : decode cX8_withoutLast 15 = .ok (.ldiv, 1) := by decide +kernel
theorem dX8_withoutLast_16 : decode cX8_withoutLast 16 = .ok (.lstore_n 3, 1) := by decide +kernel
theorem dX8_withoutLast_17 : decode cX8_withoutLast 17 = .ok (.iinc 5 1, 3) := by decide +kernel
theorem dX8_withoutLast_20 : decode cX8_withoutLast 20 = .ok (.goto (-15), 3) := by decide +kernel
theorem dX8_withoutLast_23 : decode cX8_withoutLast 23 = .ok (.lload_n 3, 1) := by decide +kernel
theorem dX8_withoutLast_24 : decode cX8_withoutLast 24 = .ok (.lreturn, 1) := by decide +kernel
theorem dX8_begin_0 : decode cX8_begin 0 = .ok (.aload_n 0, 1) := by decide +kernel
theorem dX8_begin_1 : decode cX8_begin 1 = .ok (.getfield 10, 3) := by decide +kernel
theorem dX8_begin_4 : decode cX8_begin 4 = .ok (.aload_n 1, 1) := by decide +kernel
theorem dX8_begin_5 : decode cX8_begin 5 = .ok (.getfield 26, 3) := by decide +kernel
theorem dX8_begin_8 : decode cX8_begin 8 = .ok (.aload_n 1, 1) := by decide +kernel
theorem dX8_begin_9 : decode cX8_begin 9 = .ok (.getfield 30, 3) := by decide +kernel
theorem dX8_begin_12 : decode cX8_begin 12 = .ok (.invokevirtual 33, 3) := by decide +kernel
theorem dX8_begin_15 : decode cX8_begin 15 = .ok (.return_, 1) := by decide +kernel
theorem dX8_succeeds_0 : decode cX8_succeeds 0 = .ok (.iload_n 1, 1) := by decide +kernel
theorem dX8_succeeds_1 : decode cX8_succeeds 1 = .ok (.bipush 10, 2) := by decide +kernel
theorem dX8_succeeds_3 : decode cX8_succeeds 3 = .ok (.idiv, 1) := by decide +kernel
theorem dX8_succeeds_4 : decode cX8_succeeds 4 = .ok (.bipush 10, 2) := by decide +kernel
theorem dX8_succeeds_6 : decode cX8_succeeds 6 = .ok (.irem, 1) := by decide +kernel
theorem dX8_succeeds_7 : decode cX8_succeeds 7 = .ok (.istore_n 2, 1) := by decide +kernel
theorem dX8_succeeds_8 : decode cX8_succeeds 8 = .ok (.iload_n 1, 1) := by decide +kernel
theorem dX8_succeeds_9 : decode cX8_succeeds 9 = .ok (.bipush 10, 2) := by decide +kernel
theorem dX8_succeeds_11 : decode cX8_succeeds 11 = .ok (.irem, 1) := by decide +kernel
theorem dX8_succeeds_12 : decode cX8_succeeds 12 = .ok (.istore_n 3, 1) := by decide +kernel
theorem dX8_succeeds_13 : decode cX8_succeeds 13 = .ok (.iload_n 1, 1) := by decide +kernel
theorem dX8_succeeds_14 : decode cX8_succeeds 14 = .ok (.bipush 100, 2) := by decide +kernel
theorem dX8_succeeds_16 : decode cX8_succeeds 16 = .ok (.idiv, 1) := by decide +kernel
theorem dX8_succeeds_17 : decode cX8_succeeds 17 = .ok (.tableswitch 159 4 8 #[35, 53, 81, 106, 131], 35) := by decide +kernel
theorem dX8_succeeds_52 : decode cX8_succeeds 52 = .ok (.iload_n 3, 1) := by decide +kernel
theorem dX8_succeeds_53 : decode cX8_succeeds 53 = .ok (.ifCond .ne 15, 3) := by decide +kernel
theorem dX8_succeeds_56 : decode cX8_succeeds 56 = .ok (.aload_n 0, 1) := by decide +kernel
theorem dX8_succeeds_57 : decode cX8_succeeds 57 = .ok (.iload_n 2, 1) := by decide +kernel
theorem dX8_succeeds_58 : decode cX8_succeeds 58 = .ok (.invokevirtual 37, 3) := by decide +kernel
theorem dX8_succeeds_61 : decode cX8_succeeds 61 = .ok (.ifCond .eq 7, 3) := by decide +kernel
theorem dX8_succeeds_64 : decode cX8_succeeds 64 = .ok (.iconst 1, 1) := by decide +kernel
theorem dX8_succeeds_65 : decode cX8_succeeds 65 = .ok (.goto 4, 3) := by decide +kernel
theorem dX8_succeeds_68 : decode cX8_succeeds 68 = .ok (.iconst 0, 1) := by decide +kernel
theorem dX8_succeeds_69 : decode cX8_succeeds 69 = .ok (.ireturn, 1) := by decide +kernel
theorem dX8_succeeds_70 : decode cX8_succeeds 70 = .ok (.iload_n 2, 1) := by decide +kernel
theorem dX8_succeeds_71 : decode cX8_succeeds 71 = .ok (.invokestatic 41, 3) := by decide +kernel
theorem dX8_succeeds_74 : decode cX8_succeeds 74 = .ok (.ifCond .eq 22, 3) := by decide +kernel
theorem dX8_succeeds_77 : decode cX8_succeeds 77 = .ok (.aload_n 0, 1) := by decide +kernel
theorem dX8_succeeds_78 : decode cX8_succeeds 78 = .ok (.getfield 10, 3) := by decide +kernel
theorem dX8_succeeds_81 : decode cX8_succeeds 81 = .ok (.iload_n 2, 1) := by decide +kernel
theorem dX8_succeeds_82 : decode cX8_succeeds 82 = .ok (.invokevirtual 46, 3) := by decide +kernel
theorem dX8_succeeds_85 : decode cX8_succeeds 85 = .ok (.invokestatic 50, 3) := by decide +kernel
theorem dX8_succeeds_88 : decode cX8_succeeds 88 = .ok (.iload_n 3, 1) := by decide +kernel
theorem dX8_succeeds_89 : decode cX8_succeeds 89 = .ok (.if_icmp .ne 7, 3) := by decide +kernel
theorem dX8_succeeds_92 : decode cX8_succeeds 92 = .ok (.iconst 1, 1) := by decide +kernel
theorem dX8_succeeds_93 : decode cX8_succeeds 93 = .ok (.goto 4, 3) := by decide +kernel
theorem dX8_succeeds_96 : decode cX8_succeeds 96 = .ok (.iconst 0, 1) := by decide +kernel
theorem dX8_succeeds_97 : decode cX8_succeeds 97 = .ok (.ireturn, 1) := by decide +kernel
theorem dX8_succeeds_98 : decode cX8_succeeds 98 = .ok (.aload_n 0, 1) := by decide +kernel
theorem dX8_succeeds_99 : decode cX8_succeeds 99 = .ok (.getfield 16, 3) := by decide +kernel
theorem dX8_succeeds_102 : decode cX8_succeeds 102 = .ok (.aload_n 0, 1) := by decide +kernel
theorem dX8_succeeds_103 : decode cX8_succeeds 103 = .ok (.getfield 10, 3) := by decide +kernel
theorem dX8_succeeds_106 : decode cX8_succeeds 106 = .ok (.iconst 2, 1) := by decide +kernel
theorem dX8_succeeds_107 : decode cX8_succeeds 107 = .ok (.invokevirtual 56, 3) := by decide +kernel
theorem dX8_succeeds_110 : decode cX8_succeeds 110 = .ok (.iload_n 1, 1) := by decide +kernel
theorem dX8_succeeds_111 : decode cX8_succeeds 111 = .ok (.bipush 100, 2) := by decide +kernel
theorem dX8_succeeds_113 : decode cX8_succeeds 113 = .ok (.irem, 1) := by decide +kernel
theorem dX8_succeeds_114 : decode cX8_succeeds 114 = .ok (.if_icmp .ne 7, 3) := by decide +kernel
theorem dX8_succeeds_117 : decode cX8_succeeds 117 = .ok (.iconst 1, 1) := by decide +kernel
theorem dX8_succeeds_118 : decode cX8_succeeds 118 = .ok (.goto 4, 3) := by decide +kernel
theorem dX8_succeeds_121 : decode cX8_succeeds 121 = .ok (.iconst 0, 1) := by decide +kernel
theorem dX8_succeeds_122 : decode cX8_succeeds 122 = .ok (.ireturn, 1) := by decide +kernel
theorem dX8_succeeds_123 : decode cX8_succeeds 123 = .ok (.iload_n 2, 1) := by decide +kernel
theorem dX8_succeeds_124 : decode cX8_succeeds 124 = .ok (.ifCond .ne 22, 3) := by decide +kernel
theorem dX8_succeeds_127 : decode cX8_succeeds 127 = .ok (.aload_n 0, 1) := by decide +kernel
theorem dX8_succeeds_128 : decode cX8_succeeds 128 = .ok (.getfield 20, 3) := by decide +kernel
theorem dX8_succeeds_131 : decode cX8_succeeds 131 = .ok (.aload_n 0, 1) := by decide +kernel
theorem dX8_succeeds_132 : decode cX8_succeeds 132 = .ok (.getfield 10, 3) := by decide +kernel
theorem dX8_succeeds_135 : decode cX8_succeeds 135 = .ok (.invokevirtual 62, 3) := by decide +kernel
theorem dX8_succeeds_138 : decode cX8_succeeds 138 = .ok (.iload_n 3, 1) := by decide +kernel
theorem dX8_succeeds_139 : decode cX8_succeeds 139 = .ok (.if_icmp .ne 7, 3) := by decide +kernel
theorem dX8_succeeds_142 : decode cX8_succeeds 142 = .ok (.iconst 1, 1) := by decide +kernel
theorem dX8_succeeds_143 : decode cX8_succeeds 143 = .ok (.goto 4, 3) := by decide +kernel
theorem dX8_succeeds_146 : decode cX8_succeeds 146 = .ok (.iconst 0, 1) := by decide +kernel
theorem dX8_succeeds_147 : decode cX8_succeeds 147 = .ok (.ireturn, 1) := by decide +kernel
theorem dX8_succeeds_148 : decode cX8_succeeds 148 = .ok (.iload_n 2, 1) := by decide +kernel
theorem dX8_succeeds_149 : decode cX8_succeeds 149 = .ok (.invokestatic 68, 3) := by decide +kernel
theorem dX8_succeeds_152 : decode cX8_succeeds 152 = .ok (.ifCond .eq 22, 3) := by decide +kernel
theorem dX8_succeeds_155 : decode cX8_succeeds 155 = .ok (.aload_n 0, 1) := by decide +kernel
theorem dX8_succeeds_156 : decode cX8_succeeds 156 = .ok (.getfield 10, 3) := by decide +kernel
theorem dX8_succeeds_159 : decode cX8_succeeds 159 = .ok (.iload_n 2, 1) := by decide +kernel
theorem dX8_succeeds_160 : decode cX8_succeeds 160 = .ok (.invokestatic 71, 3) := by decide +kernel
theorem dX8_succeeds_163 : decode cX8_succeeds 163 = .ok (.invokevirtual 75, 3) := by decide +kernel
theorem dX8_succeeds_166 : decode cX8_succeeds 166 = .ok (.iload_n 3, 1) := by decide +kernel
theorem dX8_succeeds_167 : decode cX8_succeeds 167 = .ok (.if_icmp .ne 7, 3) := by decide +kernel
theorem dX8_succeeds_170 : decode cX8_succeeds 170 = .ok (.iconst 1, 1) := by decide +kernel
theorem dX8_succeeds_171 : decode cX8_succeeds 171 = .ok (.goto 4, 3) := by decide +kernel
theorem dX8_succeeds_174 : decode cX8_succeeds 174 = .ok (.iconst 0, 1) := by decide +kernel
theorem dX8_succeeds_175 : decode cX8_succeeds 175 = .ok (.ireturn, 1) := by decide +kernel
theorem dX8_succeeds_176 : decode cX8_succeeds 176 = .ok (.aload_n 0, 1) := by decide +kernel
theorem dX8_succeeds_177 : decode cX8_succeeds 177 = .ok (.iload_n 1, 1) := by decide +kernel
theorem dX8_succeeds_178 : decode cX8_succeeds 178 = .ok (.invokevirtual 78, 3) := by decide +kernel
theorem dX8_succeeds_181 : decode cX8_succeeds 181 = .ok (.ireturn, 1) := by decide +kernel
theorem dX8_removes_0 : decode cX8_removes 0 = .ok (.iload_n 1, 1) := by decide +kernel
theorem dX8_removes_1 : decode cX8_removes 1 = .ok (.invokestatic 68, 3) := by decide +kernel
theorem dX8_removes_4 : decode cX8_removes 4 = .ok (.ifCond .ne 5, 3) := by decide +kernel
theorem dX8_removes_7 : decode cX8_removes 7 = .ok (.iconst 0, 1) := by decide +kernel
theorem dX8_removes_8 : decode cX8_removes 8 = .ok (.ireturn, 1) := by decide +kernel
theorem dX8_removes_9 : decode cX8_removes 9 = .ok (.aload_n 0, 1) := by decide +kernel
theorem dX8_removes_10 : decode cX8_removes 10 = .ok (.getfield 10, 3) := by decide +kernel
theorem dX8_removes_13 : decode cX8_removes 13 = .ok (.iload_n 1, 1) := by decide +kernel
theorem dX8_removes_14 : decode cX8_removes 14 = .ok (.invokestatic 71, 3) := by decide +kernel
theorem dX8_removes_17 : decode cX8_removes 17 = .ok (.lconst 0, 1) := by decide +kernel
theorem dX8_removes_18 : decode cX8_removes 18 = .ok (.invokevirtual 81, 3) := by decide +kernel
theorem dX8_removes_21 : decode cX8_removes 21 = .ok (.pop, 1) := by decide +kernel
theorem dX8_removes_22 : decode cX8_removes 22 = .ok (.iconst 1, 1) := by decide +kernel
theorem dX8_removes_23 : decode cX8_removes 23 = .ok (.ireturn, 1) := by decide +kernel
theorem dX8_rewrites_0 : decode cX8_rewrites 0 = .ok (.iload_n 1, 1) := by decide +kernel
theorem dX8_rewrites_1 : decode cX8_rewrites 1 = .ok (.lookupswitch 63 #[(100, 35), (200, 44), (300, 53)], 35) := by decide +kernel
theorem dX8_rewrites_36 : decode cX8_rewrites 36 = .ok (.aload_n 0, 1) := by decide +kernel
theorem dX8_rewrites_37 : decode cX8_rewrites 37 = .ok (.getfield 10, 3) := by decide +kernel
theorem dX8_rewrites_40 : decode cX8_rewrites 40 = .ok (.invokevirtual 85, 3) := by decide +kernel
theorem dX8_rewrites_43 : decode cX8_rewrites 43 = .ok (.iconst 1, 1) := by decide +kernel
theorem dX8_rewrites_44 : decode cX8_rewrites 44 = .ok (.ireturn, 1) := by decide +kernel
theorem dX8_rewrites_45 : decode cX8_rewrites 45 = .ok (.aload_n 0, 1) := by decide +kernel
theorem dX8_rewrites_46 : decode cX8_rewrites 46 = .ok (.getfield 10, 3) := by decide +kernel
theorem dX8_rewrites_49 : decode cX8_rewrites 49 = .ok (.invokevirtual 88, 3) := by decide +kernel
theorem dX8_rewrites_52 : decode cX8_rewrites 52 = .ok (.iconst 1, 1) := by decide +kernel
theorem dX8_rewrites_53 : decode cX8_rewrites 53 = .ok (.ireturn, 1) := by decide +kernel
theorem dX8_rewrites_54 : decode cX8_rewrites 54 = .ok (.aload_n 0, 1) := by decide +kernel
theorem dX8_rewrites_55 : decode cX8_rewrites 55 = .ok (.getfield 10, 3) := by decide +kernel
theorem dX8_rewrites_58 : decode cX8_rewrites 58 = .ok (.invokevirtual 91, 3) := by decide +kernel
theorem dX8_rewrites_61 : decode cX8_rewrites 61 = .ok (.pop, 1) := by decide +kernel
theorem dX8_rewrites_62 : decode cX8_rewrites 62 = .ok (.iconst 1, 1) := by decide +kernel
theorem dX8_rewrites_63 : decode cX8_rewrites 63 = .ok (.ireturn, 1) := by decide +kernel
theorem dX8_rewrites_64 : decode cX8_rewrites 64 = .ok (.iconst 0, 1) := by decide +kernel
theorem dX8_rewrites_65 : decode cX8_rewrites 65 = .ok (.ireturn, 1) := by decide +kernel
theorem dX9_variable_0 : decode cX9_variable 0 = .ok (.iconst 3, 1) := by decide +kernel
theorem dX9_variable_1 : decode cX9_variable 1 = .ok (.iload_n 0, 1) := by decide +kernel
theorem dX9_variable_2 : decode cX9_variable 2 = .ok (.iadd, 1) := by decide +kernel
theorem dX9_variable_3 : decode cX9_variable 3 = .ok (.ireturn, 1) := by decide +kernel
theorem dX9_isVariableSymbol_0 : decode cX9_isVariableSymbol 0 = .ok (.iload_n 0, 1) := by decide +kernel
theorem dX9_isVariableSymbol_1 : decode cX9_isVariableSymbol 1 = .ok (.iconst 3, 1) := by decide +kernel
theorem dX9_isVariableSymbol_2 : decode cX9_isVariableSymbol 2 = .ok (.if_icmp .lt 13, 3) := by decide +kernel
theorem dX9_isVariableSymbol_5 : decode cX9_isVariableSymbol 5 = .ok (.iload_n 0, 1) := by decide +kernel
theorem dX9_isVariableSymbol_6 : decode cX9_isVariableSymbol 6 = .ok (.bipush 7, 2) := by decide +kernel
theorem dX9_isVariableSymbol_8 : decode cX9_isVariableSymbol 8 = .ok (.if_icmp .ge 7, 3) := by decide +kernel
theorem dX9_isVariableSymbol_11 : decode cX9_isVariableSymbol 11 = .ok (.iconst 1, 1) := by decide +kernel
theorem dX9_isVariableSymbol_12 : decode cX9_isVariableSymbol 12 = .ok (.goto 4, 3) := by decide +kernel
theorem dX9_isVariableSymbol_15 : decode cX9_isVariableSymbol 15 = .ok (.iconst 0, 1) := by decide +kernel
theorem dX9_isVariableSymbol_16 : decode cX9_isVariableSymbol 16 = .ok (.ireturn, 1) := by decide +kernel
theorem dX9_symbolOf_0 : decode cX9_symbolOf 0 = .ok (.ldc 11, 2) := by decide +kernel
theorem dX9_symbolOf_2 : decode cX9_symbolOf 2 = .ok (.iload_n 0, 1) := by decide +kernel
theorem dX9_symbolOf_3 : decode cX9_symbolOf 3 = .ok (.invokevirtual 13, 3) := by decide +kernel
theorem dX9_symbolOf_6 : decode cX9_symbolOf 6 = .ok (.iconst 1, 1) := by decide +kernel
theorem dX9_symbolOf_7 : decode cX9_symbolOf 7 = .ok (.iadd, 1) := by decide +kernel
theorem dX9_symbolOf_8 : decode cX9_symbolOf 8 = .ok (.ireturn, 1) := by decide +kernel
theorem dX9_character_0 : decode cX9_character 0 = .ok (.iload_n 0, 1) := by decide +kernel
theorem dX9_character_1 : decode cX9_character 1 = .ok (.iconst 1, 1) := by decide +kernel
theorem dX9_character_2 : decode cX9_character 2 = .ok (.if_icmp .lt 12, 3) := by decide +kernel
theorem dX9_character_5 : decode cX9_character 5 = .ok (.iload_n 0, 1) := by decide +kernel
theorem dX9_character_6 : decode cX9_character 6 = .ok (.ldc 11, 2) := by decide +kernel
theorem dX9_character_8 : decode cX9_character 8 = .ok (.invokevirtual 19, 3) := by decide +kernel
theorem dX9_character_11 : decode cX9_character 11 = .ok (.if_icmp .le 8, 3) := by decide +kernel
theorem dX9_character_14 : decode cX9_character 14 = .ok (.bipush 32, 2) := by decide +kernel
theorem dX9_character_16 : decode cX9_character 16 = .ok (.goto 11, 3) := by decide +kernel
theorem dX9_character_19 : decode cX9_character 19 = .ok (.ldc 11, 2) := by decide +kernel
theorem dX9_character_21 : decode cX9_character 21 = .ok (.iload_n 0, 1) := by decide +kernel
theorem dX9_character_22 : decode cX9_character 22 = .ok (.iconst 1, 1) := by decide +kernel
theorem dX9_character_23 : decode cX9_character 23 = .ok (.isub, 1) := by decide +kernel
theorem dX9_character_24 : decode cX9_character 24 = .ok (.invokevirtual 23, 3) := by decide +kernel
theorem dX9_character_27 : decode cX9_character 27 = .ok (.ireturn, 1) := by decide +kernel
theorem dX9_head_0 : decode cX9_head 0 = .ok (.lload_n 0, 1) := by decide +kernel
theorem dX9_head_1 : decode cX9_head 1 = .ok (.l2i, 1) := by decide +kernel
theorem dX9_head_2 : decode cX9_head 2 = .ok (.bipush 7, 2) := by decide +kernel
theorem dX9_head_4 : decode cX9_head 4 = .ok (.iand, 1) := by decide +kernel
theorem dX9_head_5 : decode cX9_head 5 = .ok (.ireturn, 1) := by decide +kernel
theorem dX9_tail_0 : decode cX9_tail 0 = .ok (.lload_n 0, 1) := by decide +kernel
theorem dX9_tail_1 : decode cX9_tail 1 = .ok (.iconst 3, 1) := by decide +kernel
theorem dX9_tail_2 : decode cX9_tail 2 = .ok (.lushr, 1) := by decide +kernel
theorem dX9_tail_3 : decode cX9_tail 3 = .ok (.lreturn, 1) := by decide +kernel
theorem dX9_symbol_0 : decode cX9_symbol 0 = .ok (.iload_n 2, 1) := by decide +kernel
theorem dX9_symbol_1 : decode cX9_symbol 1 = .ok (.ifCond .lt 9, 3) := by decide +kernel
theorem dX9_symbol_4 : decode cX9_symbol 4 = .ok (.iload_n 2, 1) := by decide +kernel
theorem dX9_symbol_5 : decode cX9_symbol 5 = .ok (.bipush 13, 2) := by decide +kernel
theorem dX9_symbol_7 : decode cX9_symbol 7 = .ok (.if_icmp .lt 7, 3) := by decide +kernel
theorem dX9_symbol_10 : decode cX9_symbol 10 = .ok (.iconst 0, 1) := by decide +kernel
theorem dX9_symbol_11 : decode cX9_symbol 11 = .ok (.goto 12, 3) := by decide +kernel
theorem dX9_symbol_14 : decode cX9_symbol 14 = .ok (.lload_n 0, 1) := by decide +kernel
theorem dX9_symbol_15 : decode cX9_symbol 15 = .ok (.iconst 3, 1) := by decide +kernel
theorem dX9_symbol_16 : decode cX9_symbol 16 = .ok (.iload_n 2, 1) := by decide +kernel
theorem dX9_symbol_17 : decode cX9_symbol 17 = .ok (.imul, 1) := by decide +kernel
theorem dX9_symbol_18 : decode cX9_symbol 18 = .ok (.lushr, 1) := by decide +kernel
theorem dX9_symbol_19 : decode cX9_symbol 19 = .ok (.l2i, 1) := by decide +kernel
theorem dX9_symbol_20 : decode cX9_symbol 20 = .ok (.bipush 7, 2) := by decide +kernel
theorem dX9_symbol_22 : decode cX9_symbol 22 = .ok (.iand, 1) := by decide +kernel
theorem dX9_symbol_23 : decode cX9_symbol 23 = .ok (.ireturn, 1) := by decide +kernel
theorem dX9_one_0 : decode cX9_one 0 = .ok (.iload_n 1, 1) := by decide +kernel
theorem dX9_one_1 : decode cX9_one 1 = .ok (.ifCond .lt 9, 3) := by decide +kernel
theorem dX9_one_4 : decode cX9_one 4 = .ok (.iload_n 1, 1) := by decide +kernel
theorem dX9_one_5 : decode cX9_one 5 = .ok (.bipush 13, 2) := by decide +kernel
theorem dX9_one_7 : decode cX9_one 7 = .ok (.if_icmp .lt 7, 3) := by decide +kernel
theorem dX9_one_10 : decode cX9_one 10 = .ok (.lconst 0, 1) := by decide +kernel
theorem dX9_one_11 : decode cX9_one 11 = .ok (.goto 9, 3) := by decide +kernel
theorem dX9_one_14 : decode cX9_one 14 = .ok (.iload_n 0, 1) := by decide +kernel
theorem dX9_one_15 : decode cX9_one 15 = .ok (.i2l, 1) := by decide +kernel
theorem dX9_one_16 : decode cX9_one 16 = .ok (.iconst 3, 1) := by decide +kernel
theorem dX9_one_17 : decode cX9_one 17 = .ok (.iload_n 1, 1) := by decide +kernel
theorem dX9_one_18 : decode cX9_one 18 = .ok (.imul, 1) := by decide +kernel
theorem dX9_one_19 : decode cX9_one 19 = .ok (.lshl, 1) := by decide +kernel
theorem dX9_one_20 : decode cX9_one 20 = .ok (.lreturn, 1) := by decide +kernel
theorem dX9_size_0 : decode cX9_size 0 = .ok (.iconst 0, 1) := by decide +kernel
theorem dX9_size_1 : decode cX9_size 1 = .ok (.istore_n 2, 1) := by decide +kernel
theorem dX9_size_2 : decode cX9_size 2 = .ok (.iload_n 2, 1) := by decide +kernel
theorem dX9_size_3 : decode cX9_size 3 = .ok (.bipush 13, 2) := by decide +kernel
theorem dX9_size_5 : decode cX9_size 5 = .ok (.if_icmp .ge 19, 3) := by decide +kernel
theorem dX9_size_8 : decode cX9_size 8 = .ok (.lload_n 0, 1) := by decide +kernel
theorem dX9_size_9 : decode cX9_size 9 = .ok (.iconst 3, 1) := by decide +kernel
theorem dX9_size_10 : decode cX9_size 10 = .ok (.iload_n 2, 1) := by decide +kernel
theorem dX9_size_11 : decode cX9_size 11 = .ok (.imul, 1) := by decide +kernel
theorem dX9_size_12 : decode cX9_size 12 = .ok (.lushr, 1) := by decide +kernel
theorem dX9_size_13 : decode cX9_size 13 = .ok (.lconst 0, 1) := by decide +kernel
theorem dX9_size_14 : decode cX9_size 14 = .ok (.lcmp, 1) := by decide +kernel
theorem dX9_size_15 : decode cX9_size 15 = .ok (.ifCond .eq 9, 3) := by decide +kernel
theorem dX9_size_18 : decode cX9_size 18 = .ok (.iinc 2 1, 3) := by decide +kernel
theorem dX9_size_21 : decode cX9_size 21 = .ok (.goto (-19), 3) := by decide +kernel
theorem dX9_size_24 : decode cX9_size 24 = .ok (.iload_n 2, 1) := by decide +kernel
theorem dX9_size_25 : decode cX9_size 25 = .ok (.ireturn, 1) := by decide +kernel
theorem dX9_countOf_0 : decode cX9_countOf 0 = .ok (.iconst 0, 1) := by decide +kernel
theorem dX9_countOf_1 : decode cX9_countOf 1 = .ok (.istore_n 3, 1) := by decide +kernel
theorem dX9_countOf_2 : decode cX9_countOf 2 = .ok (.iconst 0, 1) := by decide +kernel
theorem dX9_countOf_3 : decode cX9_countOf 3 = .ok (.istore 4, 2) := by decide +kernel
theorem dX9_countOf_5 : decode cX9_countOf 5 = .ok (.iload 4, 2) := by decide +kernel
theorem dX9_countOf_7 : decode cX9_countOf 7 = .ok (.bipush 13, 2) := by decide +kernel
theorem dX9_countOf_9 : decode cX9_countOf 9 = .ok (.if_icmp .ge 28, 3) := by decide +kernel
theorem dX9_countOf_12 : decode cX9_countOf 12 = .ok (.lload_n 0, 1) := by decide +kernel
theorem dX9_countOf_13 : decode cX9_countOf 13 = .ok (.iconst 3, 1) := by decide +kernel
theorem dX9_countOf_14 : decode cX9_countOf 14 = .ok (.iload 4, 2) := by decide +kernel
theorem dX9_countOf_16 : decode cX9_countOf 16 = .ok (.imul, 1) := by decide +kernel
theorem dX9_countOf_17 : decode cX9_countOf 17 = .ok (.lushr, 1) := by decide +kernel
theorem dX9_countOf_18 : decode cX9_countOf 18 = .ok (.ldc2_w 27, 3) := by decide +kernel
theorem dX9_countOf_21 : decode cX9_countOf 21 = .ok (.land, 1) := by decide +kernel
theorem dX9_countOf_22 : decode cX9_countOf 22 = .ok (.iload_n 2, 1) := by decide +kernel
theorem dX9_countOf_23 : decode cX9_countOf 23 = .ok (.i2l, 1) := by decide +kernel
theorem dX9_countOf_24 : decode cX9_countOf 24 = .ok (.lcmp, 1) := by decide +kernel
theorem dX9_countOf_25 : decode cX9_countOf 25 = .ok (.ifCond .ne 6, 3) := by decide +kernel
theorem dX9_countOf_28 : decode cX9_countOf 28 = .ok (.iinc 3 1, 3) := by decide +kernel
theorem dX9_countOf_31 : decode cX9_countOf 31 = .ok (.iinc 4 1, 3) := by decide +kernel
theorem dX9_countOf_34 : decode cX9_countOf 34 = .ok (.goto (-29), 3) := by decide +kernel
theorem dX9_countOf_37 : decode cX9_countOf 37 = .ok (.iload_n 3, 1) := by decide +kernel
theorem dX9_countOf_38 : decode cX9_countOf 38 = .ok (.ireturn, 1) := by decide +kernel
theorem dX9_reversed_0 : decode cX9_reversed 0 = .ok (.lload_n 0, 1) := by decide +kernel
theorem dX9_reversed_1 : decode cX9_reversed 1 = .ok (.invokestatic 29, 3) := by decide +kernel
theorem dX9_reversed_4 : decode cX9_reversed 4 = .ok (.istore_n 2, 1) := by decide +kernel
theorem dX9_reversed_5 : decode cX9_reversed 5 = .ok (.lconst 0, 1) := by decide +kernel
theorem dX9_reversed_6 : decode cX9_reversed 6 = .ok (.lstore_n 3, 1) := by decide +kernel
theorem dX9_reversed_7 : decode cX9_reversed 7 = .ok (.iconst 0, 1) := by decide +kernel
theorem dX9_reversed_8 : decode cX9_reversed 8 = .ok (.istore 5, 2) := by decide +kernel
theorem dX9_reversed_10 : decode cX9_reversed 10 = .ok (.iload 5, 2) := by decide +kernel
theorem dX9_reversed_12 : decode cX9_reversed 12 = .ok (.iload_n 2, 1) := by decide +kernel
theorem dX9_reversed_13 : decode cX9_reversed 13 = .ok (.if_icmp .ge 21, 3) := by decide +kernel
theorem dX9_reversed_16 : decode cX9_reversed 16 = .ok (.lload_n 3, 1) := by decide +kernel
theorem dX9_reversed_17 : decode cX9_reversed 17 = .ok (.iconst 3, 1) := by decide +kernel
theorem dX9_reversed_18 : decode cX9_reversed 18 = .ok (.lshl, 1) := by decide +kernel
theorem dX9_reversed_19 : decode cX9_reversed 19 = .ok (.lload_n 0, 1) := by decide +kernel
theorem dX9_reversed_20 : decode cX9_reversed 20 = .ok (.iload 5, 2) := by decide +kernel
theorem dX9_reversed_22 : decode cX9_reversed 22 = .ok (.invokestatic 33, 3) := by decide +kernel
theorem dX9_reversed_25 : decode cX9_reversed 25 = .ok (.i2l, 1) := by decide +kernel
theorem dX9_reversed_26 : decode cX9_reversed 26 = .ok (.lor, 1) := by decide +kernel
theorem dX9_reversed_27 : decode cX9_reversed 27 = .ok (.lstore_n 3, 1) := by decide +kernel
theorem dX9_reversed_28 : decode cX9_reversed 28 = .ok (.iinc 5 1, 3) := by decide +kernel
theorem dX9_reversed_31 : decode cX9_reversed 31 = .ok (.goto (-21), 3) := by decide +kernel
theorem dX9_reversed_34 : decode cX9_reversed 34 = .ok (.lload_n 3, 1) := by decide +kernel
theorem dX9_reversed_35 : decode cX9_reversed 35 = .ok (.lreturn, 1) := by decide +kernel
theorem dX9_exchanged_0 : decode cX9_exchanged 0 = .ok (.lconst 0, 1) := by decide +kernel
theorem dX9_exchanged_1 : decode cX9_exchanged 1 = .ok (.lstore_n 2, 1) := by decide +kernel
theorem dX9_exchanged_2 : decode cX9_exchanged 2 = .ok (.iconst 0, 1) := by decide +kernel
theorem dX9_exchanged_3 : decode cX9_exchanged 3 = .ok (.istore 4, 2) := by decide +kernel
theorem dX9_exchanged_5 : decode cX9_exchanged 5 = .ok (.iload 4, 2) := by decide +kernel
theorem dX9_exchanged_7 : decode cX9_exchanged 7 = .ok (.bipush 13, 2) := by decide +kernel
theorem dX9_exchanged_9 : decode cX9_exchanged 9 = .ok (.if_icmp .ge 58, 3) := by decide +kernel
theorem dX9_exchanged_12 : decode cX9_exchanged 12 = .ok (.lload_n 0, 1) := by decide +kernel
theorem dX9_exchanged_13 : decode cX9_exchanged 13 = .ok (.iload 4, 2) := by decide +kernel
theorem dX9_exchanged_15 : decode cX9_exchanged 15 = .ok (.invokestatic 33, 3) := by decide +kernel
theorem dX9_exchanged_18 : decode cX9_exchanged 18 = .ok (.istore 5, 2) := by decide +kernel
theorem dX9_exchanged_20 : decode cX9_exchanged 20 = .ok (.iload 5, 2) := by decide +kernel
theorem dX9_exchanged_22 : decode cX9_exchanged 22 = .ok (.iconst 1, 1) := by decide +kernel
theorem dX9_exchanged_23 : decode cX9_exchanged 23 = .ok (.if_icmp .eq 9, 3) := by decide +kernel
theorem dX9_exchanged_26 : decode cX9_exchanged 26 = .ok (.iload 5, 2) := by decide +kernel
theorem dX9_exchanged_28 : decode cX9_exchanged 28 = .ok (.iconst 2, 1) := by decide +kernel
theorem dX9_exchanged_29 : decode cX9_exchanged 29 = .ok (.if_icmp .ne 7, 3) := by decide +kernel
theorem dX9_exchanged_32 : decode cX9_exchanged 32 = .ok (.iconst 1, 1) := by decide +kernel
theorem dX9_exchanged_33 : decode cX9_exchanged 33 = .ok (.goto 4, 3) := by decide +kernel
theorem dX9_exchanged_36 : decode cX9_exchanged 36 = .ok (.iconst 0, 1) := by decide +kernel
theorem dX9_exchanged_37 : decode cX9_exchanged 37 = .ok (.istore 6, 2) := by decide +kernel
theorem dX9_exchanged_39 : decode cX9_exchanged 39 = .ok (.lload_n 2, 1) := by decide +kernel
theorem dX9_exchanged_40 : decode cX9_exchanged 40 = .ok (.iload 6, 2) := by decide +kernel
theorem dX9_exchanged_42 : decode cX9_exchanged 42 = .ok (.ifCond .eq 10, 3) := by decide +kernel
theorem dX9_exchanged_45 : decode cX9_exchanged 45 = .ok (.iconst 3, 1) := by decide +kernel
theorem dX9_exchanged_46 : decode cX9_exchanged 46 = .ok (.iload 5, 2) := by decide +kernel
theorem dX9_exchanged_48 : decode cX9_exchanged 48 = .ok (.isub, 1) := by decide +kernel
theorem dX9_exchanged_49 : decode cX9_exchanged 49 = .ok (.goto 5, 3) := by decide +kernel
theorem dX9_exchanged_52 : decode cX9_exchanged 52 = .ok (.iload 5, 2) := by decide +kernel
theorem dX9_exchanged_54 : decode cX9_exchanged 54 = .ok (.iload 4, 2) := by decide +kernel
theorem dX9_exchanged_56 : decode cX9_exchanged 56 = .ok (.invokestatic 37, 3) := by decide +kernel
theorem dX9_exchanged_59 : decode cX9_exchanged 59 = .ok (.lor, 1) := by decide +kernel
theorem dX9_exchanged_60 : decode cX9_exchanged 60 = .ok (.lstore_n 2, 1) := by decide +kernel
theorem dX9_exchanged_61 : decode cX9_exchanged 61 = .ok (.iinc 4 1, 3) := by decide +kernel
theorem dX9_exchanged_64 : decode cX9_exchanged 64 = .ok (.goto (-59), 3) := by decide +kernel
theorem dX9_exchanged_67 : decode cX9_exchanged 67 = .ok (.lload_n 2, 1) := by decide +kernel
theorem dX9_exchanged_68 : decode cX9_exchanged 68 = .ok (.lreturn, 1) := by decide +kernel
theorem dX9_replaced_0 : decode cX9_replaced 0 = .ok (.lload_n 0, 1) := by decide +kernel
theorem dX9_replaced_1 : decode cX9_replaced 1 = .ok (.invokestatic 29, 3) := by decide +kernel
theorem dX9_replaced_4 : decode cX9_replaced 4 = .ok (.istore 5, 2) := by decide +kernel
theorem dX9_replaced_6 : decode cX9_replaced 6 = .ok (.lload_n 3, 1) := by decide +kernel
theorem dX9_replaced_7 : decode cX9_replaced 7 = .ok (.invokestatic 29, 3) := by decide +kernel
theorem dX9_replaced_10 : decode cX9_replaced 10 = .ok (.istore 6, 2) := by decide +kernel
theorem dX9_replaced_12 : decode cX9_replaced 12 = .ok (.lconst 0, 1) := by decide +kernel
theorem dX9_replaced_13 : decode cX9_replaced 13 = .ok (.lstore 7, 2) := by decide +kernel
theorem dX9_replaced_15 : decode cX9_replaced 15 = .ok (.iconst 0, 1) := by decide +kernel
theorem dX9_replaced_16 : decode cX9_replaced 16 = .ok (.istore 9, 2) := by decide +kernel
theorem dX9_replaced_18 : decode cX9_replaced 18 = .ok (.iconst 0, 1) := by decide +kernel
theorem dX9_replaced_19 : decode cX9_replaced 19 = .ok (.istore 10, 2) := by decide +kernel
theorem dX9_replaced_21 : decode cX9_replaced 21 = .ok (.iload 10, 2) := by decide +kernel
theorem dX9_replaced_23 : decode cX9_replaced 23 = .ok (.iload 5, 2) := by decide +kernel
theorem dX9_replaced_25 : decode cX9_replaced 25 = .ok (.if_icmp .ge 57, 3) := by decide +kernel
theorem dX9_replaced_28 : decode cX9_replaced 28 = .ok (.lload_n 0, 1) := by decide +kernel
theorem dX9_replaced_29 : decode cX9_replaced 29 = .ok (.iload 10, 2) := by decide +kernel
theorem dX9_replaced_31 : decode cX9_replaced 31 = .ok (.invokestatic 33, 3) := by decide +kernel
theorem dX9_replaced_34 : decode cX9_replaced 34 = .ok (.istore 11, 2) := by decide +kernel
theorem dX9_replaced_36 : decode cX9_replaced 36 = .ok (.lload 7, 2) := by decide +kernel
theorem dX9_replaced_38 : decode cX9_replaced 38 = .ok (.iload 11, 2) := by decide +kernel
theorem dX9_replaced_40 : decode cX9_replaced 40 = .ok (.iload_n 2, 1) := by decide +kernel
theorem dX9_replaced_41 : decode cX9_replaced 41 = .ok (.if_icmp .ne 7, 3) := by decide +kernel
theorem dX9_replaced_44 : decode cX9_replaced 44 = .ok (.lload_n 3, 1) := by decide +kernel
theorem dX9_replaced_45 : decode cX9_replaced 45 = .ok (.goto 6, 3) := by decide +kernel
theorem dX9_replaced_48 : decode cX9_replaced 48 = .ok (.iload 11, 2) := by decide +kernel
theorem dX9_replaced_50 : decode cX9_replaced 50 = .ok (.i2l, 1) := by decide +kernel
theorem dX9_replaced_51 : decode cX9_replaced 51 = .ok (.iconst 3, 1) := by decide +kernel
theorem dX9_replaced_52 : decode cX9_replaced 52 = .ok (.iload 9, 2) := by decide +kernel
theorem dX9_replaced_54 : decode cX9_replaced 54 = .ok (.imul, 1) := by decide +kernel
theorem dX9_replaced_55 : decode cX9_replaced 55 = .ok (.lshl, 1) := by decide +kernel
theorem dX9_replaced_56 : decode cX9_replaced 56 = .ok (.lor, 1) := by decide +kernel
theorem dX9_replaced_57 : decode cX9_replaced 57 = .ok (.lstore 7, 2) := by decide +kernel
theorem dX9_replaced_59 : decode cX9_replaced 59 = .ok (.iload 9, 2) := by decide +kernel
theorem dX9_replaced_61 : decode cX9_replaced 61 = .ok (.iload 11, 2) := by decide +kernel
theorem dX9_replaced_63 : decode cX9_replaced 63 = .ok (.iload_n 2, 1) := by decide +kernel
theorem dX9_replaced_64 : decode cX9_replaced 64 = .ok (.if_icmp .ne 8, 3) := by decide +kernel
theorem dX9_replaced_67 : decode cX9_replaced 67 = .ok (.iload 6, 2) := by decide +kernel
theorem dX9_replaced_69 : decode cX9_replaced 69 = .ok (.goto 4, 3) := by decide +kernel
theorem dX9_replaced_72 : decode cX9_replaced 72 = .ok (.iconst 1, 1) := by decide +kernel
theorem dX9_replaced_73 : decode cX9_replaced 73 = .ok (.iadd, 1) := by decide +kernel
theorem dX9_replaced_74 : decode cX9_replaced 74 = .ok (.istore 9, 2) := by decide +kernel
theorem dX9_replaced_76 : decode cX9_replaced 76 = .ok (.iinc 10 1, 3) := by decide +kernel
theorem dX9_replaced_79 : decode cX9_replaced 79 = .ok (.goto (-58), 3) := by decide +kernel
theorem dX9_replaced_82 : decode cX9_replaced 82 = .ok (.lload 7, 2) := by decide +kernel
theorem dX9_replaced_84 : decode cX9_replaced 84 = .ok (.lreturn, 1) := by decide +kernel
theorem dX9_sizeAfter_0 : decode cX9_sizeAfter 0 = .ok (.lload_n 0, 1) := by decide +kernel
theorem dX9_sizeAfter_1 : decode cX9_sizeAfter 1 = .ok (.invokestatic 29, 3) := by decide +kernel
theorem dX9_sizeAfter_4 : decode cX9_sizeAfter 4 = .ok (.lload_n 0, 1) := by decide +kernel
theorem dX9_sizeAfter_5 : decode cX9_sizeAfter 5 = .ok (.iload_n 2, 1) := by decide +kernel
theorem dX9_sizeAfter_6 : decode cX9_sizeAfter 6 = .ok (.invokestatic 41, 3) := by decide +kernel
theorem dX9_sizeAfter_9 : decode cX9_sizeAfter 9 = .ok (.iload_n 3, 1) := by decide +kernel
theorem dX9_sizeAfter_10 : decode cX9_sizeAfter 10 = .ok (.iconst 1, 1) := by decide +kernel
theorem dX9_sizeAfter_11 : decode cX9_sizeAfter 11 = .ok (.isub, 1) := by decide +kernel
theorem dX9_sizeAfter_12 : decode cX9_sizeAfter 12 = .ok (.imul, 1) := by decide +kernel
theorem dX9_sizeAfter_13 : decode cX9_sizeAfter 13 = .ok (.iadd, 1) := by decide +kernel
theorem dX9_sizeAfter_14 : decode cX9_sizeAfter 14 = .ok (.ireturn, 1) := by decide +kernel
theorem dX10_init_0 : decode cX10_init 0 = .ok (.aload_n 0, 1) := by decide +kernel
theorem dX10_init_1 : decode cX10_init 1 = .ok (.invokespecial 1, 3) := by decide +kernel
theorem dX10_init_4 : decode cX10_init 4 = .ok (.aload_n 0, 1) := by decide +kernel
theorem dX10_init_5 : decode cX10_init 5 = .ok (.iconst 2, 1) := by decide +kernel
theorem dX10_init_6 : decode cX10_init 6 = .ok (.newarray .long, 2) := by decide +kernel
theorem dX10_init_8 : decode cX10_init 8 = .ok (.putfield 9, 3) := by decide +kernel
theorem dX10_init_11 : decode cX10_init 11 = .ok (.aload_n 0, 1) := by decide +kernel
theorem dX10_init_12 : decode cX10_init 12 = .ok (.iconst 2, 1) := by decide +kernel
theorem dX10_init_13 : decode cX10_init 13 = .ok (.newarray .long, 2) := by decide +kernel
theorem dX10_init_15 : decode cX10_init 15 = .ok (.putfield 13, 3) := by decide +kernel
theorem dX10_init_18 : decode cX10_init 18 = .ok (.aload_n 0, 1) := by decide +kernel
theorem dX10_init_19 : decode cX10_init 19 = .ok (.iconst 2, 1) := by decide +kernel
theorem dX10_init_20 : decode cX10_init 20 = .ok (.newarray .boolean, 2) := by decide +kernel
theorem dX10_init_22 : decode cX10_init 22 = .ok (.putfield 16, 3) := by decide +kernel
theorem dX10_init_25 : decode cX10_init 25 = .ok (.return_, 1) := by decide +kernel
theorem dX10_has_0 : decode cX10_has 0 = .ok (.iload_n 0, 1) := by decide +kernel
theorem dX10_has_1 : decode cX10_has 1 = .ok (.ifCond .lt 12, 3) := by decide +kernel
theorem dX10_has_4 : decode cX10_has 4 = .ok (.iload_n 0, 1) := by decide +kernel
theorem dX10_has_5 : decode cX10_has 5 = .ok (.iconst 2, 1) := by decide +kernel
theorem dX10_has_6 : decode cX10_has 6 = .ok (.if_icmp .ge 7, 3) := by decide +kernel
theorem dX10_has_9 : decode cX10_has 9 = .ok (.iconst 1, 1) := by decide +kernel
theorem dX10_has_10 : decode cX10_has 10 = .ok (.goto 4, 3) := by decide +kernel
theorem dX10_has_13 : decode cX10_has 13 = .ok (.iconst 0, 1) := by decide +kernel
theorem dX10_has_14 : decode cX10_has 14 = .ok (.ireturn, 1) := by decide +kernel
theorem dX10_isFilled_0 : decode cX10_isFilled 0 = .ok (.iload_n 1, 1) := by decide +kernel
theorem dX10_isFilled_1 : decode cX10_isFilled 1 = .ok (.invokestatic 20, 3) := by decide +kernel
theorem dX10_isFilled_4 : decode cX10_isFilled 4 = .ok (.ifCond .eq 16, 3) := by decide +kernel
theorem dX10_isFilled_7 : decode cX10_isFilled 7 = .ok (.aload_n 0, 1) := by decide +kernel
theorem dX10_isFilled_8 : decode cX10_isFilled 8 = .ok (.getfield 16, 3) := by decide +kernel
theorem dX10_isFilled_11 : decode cX10_isFilled 11 = .ok (.iload_n 1, 1) := by decide +kernel
theorem dX10_isFilled_12 : decode cX10_isFilled 12 = .ok (.baload, 1) := by decide +kernel
theorem dX10_isFilled_13 : decode cX10_isFilled 13 = .ok (.ifCond .eq 7, 3) := by decide +kernel
theorem dX10_isFilled_16 : decode cX10_isFilled 16 = .ok (.iconst 1, 1) := by decide +kernel
theorem dX10_isFilled_17 : decode cX10_isFilled 17 = .ok (.goto 4, 3) := by decide +kernel
theorem dX10_isFilled_20 : decode cX10_isFilled 20 = .ok (.iconst 0, 1) := by decide +kernel
theorem dX10_isFilled_21 : decode cX10_isFilled 21 = .ok (.ireturn, 1) := by decide +kernel
theorem dX10_empty_0 : decode cX10_empty 0 = .ok (.iconst 0, 1) := by decide +kernel
theorem dX10_empty_1 : decode cX10_empty 1 = .ok (.istore_n 1, 1) := by decide +kernel
theorem dX10_empty_2 : decode cX10_empty 2 = .ok (.iload_n 1, 1) := by decide +kernel
theorem dX10_empty_3 : decode cX10_empty 3 = .ok (.iconst 2, 1) := by decide +kernel
theorem dX10_empty_4 : decode cX10_empty 4 = .ok (.if_icmp .ge 16, 3) := by decide +kernel
theorem dX10_empty_7 : decode cX10_empty 7 = .ok (.aload_n 0, 1) := by decide +kernel
theorem dX10_empty_8 : decode cX10_empty 8 = .ok (.getfield 16, 3) := by decide +kernel
theorem dX10_empty_11 : decode cX10_empty 11 = .ok (.iload_n 1, 1) := by decide +kernel
theorem dX10_empty_12 : decode cX10_empty 12 = .ok (.iconst 0, 1) := by decide +kernel
theorem dX10_empty_13 : decode cX10_empty 13 = .ok (.bastore, 1) := by decide +kernel
theorem dX10_empty_14 : decode cX10_empty 14 = .ok (.iinc 1 1, 3) := by decide +kernel
theorem dX10_empty_17 : decode cX10_empty 17 = .ok (.goto (-15), 3) := by decide +kernel
theorem dX10_empty_20 : decode cX10_empty 20 = .ok (.return_, 1) := by decide +kernel
theorem dX10_store_0 : decode cX10_store 0 = .ok (.iload_n 1, 1) := by decide +kernel
theorem dX10_store_1 : decode cX10_store 1 = .ok (.invokestatic 20, 3) := by decide +kernel
theorem dX10_store_4 : decode cX10_store 4 = .ok (.ifCond .eq 30, 3) := by decide +kernel
theorem dX10_store_7 : decode cX10_store 7 = .ok (.aload_n 0, 1) := by decide +kernel
theorem dX10_store_8 : decode cX10_store 8 = .ok (.getfield 9, 3) := by decide +kernel
theorem dX10_store_11 : decode cX10_store 11 = .ok (.iload_n 1, 1) := by decide +kernel
theorem dX10_store_12 : decode cX10_store 12 = .ok (.aload_n 2, 1) := by decide +kernel
theorem dX10_store_13 : decode cX10_store 13 = .ok (.getfield 24, 3) := by decide +kernel
theorem dX10_store_16 : decode cX10_store 16 = .ok (.lastore, 1) := by decide +kernel
theorem dX10_store_17 : decode cX10_store 17 = .ok (.aload_n 0, 1) := by decide +kernel
theorem dX10_store_18 : decode cX10_store 18 = .ok (.getfield 13, 3) := by decide +kernel
theorem dX10_store_21 : decode cX10_store 21 = .ok (.iload_n 1, 1) := by decide +kernel
theorem dX10_store_22 : decode cX10_store 22 = .ok (.aload_n 2, 1) := by decide +kernel
theorem dX10_store_23 : decode cX10_store 23 = .ok (.getfield 30, 3) := by decide +kernel
theorem dX10_store_26 : decode cX10_store 26 = .ok (.lastore, 1) := by decide +kernel
theorem dX10_store_27 : decode cX10_store 27 = .ok (.aload_n 0, 1) := by decide +kernel
theorem dX10_store_28 : decode cX10_store 28 = .ok (.getfield 16, 3) := by decide +kernel
theorem dX10_store_31 : decode cX10_store 31 = .ok (.iload_n 1, 1) := by decide +kernel
theorem dX10_store_32 : decode cX10_store 32 = .ok (.iconst 1, 1) := by decide +kernel
theorem dX10_store_33 : decode cX10_store 33 = .ok (.bastore, 1) := by decide +kernel
theorem dX10_store_34 : decode cX10_store 34 = .ok (.return_, 1) := by decide +kernel
theorem dX10_fetch_0 : decode cX10_fetch 0 = .ok (.iload_n 1, 1) := by decide +kernel
theorem dX10_fetch_1 : decode cX10_fetch 1 = .ok (.invokestatic 20, 3) := by decide +kernel
theorem dX10_fetch_4 : decode cX10_fetch 4 = .ok (.ifCond .eq 19, 3) := by decide +kernel
theorem dX10_fetch_7 : decode cX10_fetch 7 = .ok (.aload_n 2, 1) := by decide +kernel
theorem dX10_fetch_8 : decode cX10_fetch 8 = .ok (.aload_n 0, 1) := by decide +kernel
theorem dX10_fetch_9 : decode cX10_fetch 9 = .ok (.getfield 9, 3) := by decide +kernel
theorem dX10_fetch_12 : decode cX10_fetch 12 = .ok (.iload_n 1, 1) := by decide +kernel
theorem dX10_fetch_13 : decode cX10_fetch 13 = .ok (.laload, 1) := by decide +kernel
theorem dX10_fetch_14 : decode cX10_fetch 14 = .ok (.aload_n 0, 1) := by decide +kernel
theorem dX10_fetch_15 : decode cX10_fetch 15 = .ok (.getfield 13, 3) := by decide +kernel
theorem dX10_fetch_18 : decode cX10_fetch 18 = .ok (.iload_n 1, 1) := by decide +kernel
theorem dX10_fetch_19 : decode cX10_fetch 19 = .ok (.laload, 1) := by decide +kernel
theorem dX10_fetch_20 : decode cX10_fetch 20 = .ok (.invokevirtual 33, 3) := by decide +kernel
theorem dX10_fetch_23 : decode cX10_fetch 23 = .ok (.return_, 1) := by decide +kernel
theorem dX11_init_0 : decode cX11_init 0 = .ok (.aload_n 0, 1) := by decide +kernel
theorem dX11_init_1 : decode cX11_init 1 = .ok (.invokespecial 1, 3) := by decide +kernel
theorem dX11_init_4 : decode cX11_init 4 = .ok (.aload_n 0, 1) := by decide +kernel
theorem dX11_init_5 : decode cX11_init 5 = .ok (.new 7, 3) := by decide +kernel
theorem dX11_init_8 : decode cX11_init 8 = .ok (.dup, 1) := by decide +kernel
theorem dX11_init_9 : decode cX11_init 9 = .ok (.invokespecial 9, 3) := by decide +kernel
theorem dX11_init_12 : decode cX11_init 12 = .ok (.putfield 10, 3) := by decide +kernel
theorem dX11_init_15 : decode cX11_init 15 = .ok (.aload_n 0, 1) := by decide +kernel
theorem dX11_init_16 : decode cX11_init 16 = .ok (.new 16, 3) := by decide +kernel
theorem dX11_init_19 : decode cX11_init 19 = .ok (.dup, 1) := by decide +kernel
theorem dX11_init_20 : decode cX11_init 20 = .ok (.invokespecial 18, 3) := by decide +kernel
theorem dX11_init_23 : decode cX11_init 23 = .ok (.putfield 19, 3) := by decide +kernel
theorem dX11_init_26 : decode cX11_init 26 = .ok (.aload_n 0, 1) := by decide +kernel
theorem dX11_init_27 : decode cX11_init 27 = .ok (.new 23, 3) := by decide +kernel
theorem dX11_init_30 : decode cX11_init 30 = .ok (.dup, 1) := by decide +kernel
theorem dX11_init_31 : decode cX11_init 31 = .ok (.invokespecial 25, 3) := by decide +kernel
theorem dX11_init_34 : decode cX11_init 34 = .ok (.putfield 26, 3) := by decide +kernel
theorem dX11_init_37 : decode cX11_init 37 = .ok (.aload_n 0, 1) := by decide +kernel
theorem dX11_init_38 : decode cX11_init 38 = .ok (.new 30, 3) := by decide +kernel
theorem dX11_init_41 : decode cX11_init 41 = .ok (.dup, 1) := by decide +kernel
theorem dX11_init_42 : decode cX11_init 42 = .ok (.invokespecial 32, 3) := by decide +kernel
theorem dX11_init_45 : decode cX11_init 45 = .ok (.putfield 33, 3) := by decide +kernel
theorem dX11_init_48 : decode cX11_init 48 = .ok (.aload_n 0, 1) := by decide +kernel
theorem dX11_init_49 : decode cX11_init 49 = .ok (.new 37, 3) := by decide +kernel
theorem dX11_init_52 : decode cX11_init 52 = .ok (.dup, 1) := by decide +kernel
theorem dX11_init_53 : decode cX11_init 53 = .ok (.invokespecial 39, 3) := by decide +kernel
theorem dX11_init_56 : decode cX11_init 56 = .ok (.putfield 40, 3) := by decide +kernel
theorem dX11_init_59 : decode cX11_init 59 = .ok (.aload_n 0, 1) := by decide +kernel
theorem dX11_init_60 : decode cX11_init 60 = .ok (.new 44, 3) := by decide +kernel
theorem dX11_init_63 : decode cX11_init 63 = .ok (.dup, 1) := by decide +kernel
theorem dX11_init_64 : decode cX11_init 64 = .ok (.invokespecial 46, 3) := by decide +kernel
theorem dX11_init_67 : decode cX11_init 67 = .ok (.putfield 47, 3) := by decide +kernel
theorem dX11_init_70 : decode cX11_init 70 = .ok (.aload_n 0, 1) := by decide +kernel
theorem dX11_init_71 : decode cX11_init 71 = .ok (.new 51, 3) := by decide +kernel
theorem dX11_init_74 : decode cX11_init 74 = .ok (.dup, 1) := by decide +kernel
theorem dX11_init_75 : decode cX11_init 75 = .ok (.aload_n 0, 1) := by decide +kernel
theorem dX11_init_76 : decode cX11_init 76 = .ok (.getfield 26, 3) := by decide +kernel
theorem dX11_init_79 : decode cX11_init 79 = .ok (.invokespecial 53, 3) := by decide +kernel
theorem dX11_init_82 : decode cX11_init 82 = .ok (.putfield 56, 3) := by decide +kernel
theorem dX11_init_85 : decode cX11_init 85 = .ok (.aload_n 0, 1) := by decide +kernel
theorem dX11_init_86 : decode cX11_init 86 = .ok (.new 60, 3) := by decide +kernel
theorem dX11_init_89 : decode cX11_init 89 = .ok (.dup, 1) := by decide +kernel
theorem dX11_init_90 : decode cX11_init 90 = .ok (.aload_n 0, 1) := by decide +kernel
theorem dX11_init_91 : decode cX11_init 91 = .ok (.getfield 56, 3) := by decide +kernel
theorem dX11_init_94 : decode cX11_init 94 = .ok (.invokespecial 62, 3) := by decide +kernel
theorem dX11_init_97 : decode cX11_init 97 = .ok (.putfield 65, 3) := by decide +kernel
theorem dX11_init_100 : decode cX11_init 100 = .ok (.aload_n 0, 1) := by decide +kernel
theorem dX11_init_101 : decode cX11_init 101 = .ok (.new 69, 3) := by decide +kernel
theorem dX11_init_104 : decode cX11_init 104 = .ok (.dup, 1) := by decide +kernel
theorem dX11_init_105 : decode cX11_init 105 = .ok (.invokespecial 71, 3) := by decide +kernel
theorem dX11_init_108 : decode cX11_init 108 = .ok (.putfield 72, 3) := by decide +kernel
theorem dX11_init_111 : decode cX11_init 111 = .ok (.aload_n 0, 1) := by decide +kernel
theorem dX11_init_112 : decode cX11_init 112 = .ok (.new 76, 3) := by decide +kernel
theorem dX11_init_115 : decode cX11_init 115 = .ok (.dup, 1) := by decide +kernel
theorem dX11_init_116 : decode cX11_init 116 = .ok (.aload_n 0, 1) := by decide +kernel
theorem dX11_init_117 : decode cX11_init 117 = .ok (.getfield 65, 3) := by decide +kernel
theorem dX11_init_120 : decode cX11_init 120 = .ok (.aload_n 0, 1) := by decide +kernel
theorem dX11_init_121 : decode cX11_init 121 = .ok (.getfield 72, 3) := by decide +kernel
theorem dX11_init_124 : decode cX11_init 124 = .ok (.invokespecial 78, 3) := by decide +kernel
theorem dX11_init_127 : decode cX11_init 127 = .ok (.putfield 81, 3) := by decide +kernel
theorem dX11_init_130 : decode cX11_init 130 = .ok (.return_, 1) := by decide +kernel
theorem dX11_append_0 : decode cX11_append 0 = .ok (.iload_n 1, 1) := by decide +kernel
theorem dX11_append_1 : decode cX11_append 1 = .ok (.ifCond .lt 10, 3) := by decide +kernel
theorem dX11_append_4 : decode cX11_append 4 = .ok (.iload_n 1, 1) := by decide +kernel
theorem dX11_append_5 : decode cX11_append 5 = .ok (.sipush 255, 3) := by decide +kernel
theorem dX11_append_8 : decode cX11_append 8 = .ok (.if_icmp .le 6, 3) := by decide +kernel
theorem dX11_append_11 : decode cX11_append 11 = .ok (.bipush (-2), 2) := by decide +kernel
theorem dX11_append_13 : decode cX11_append 13 = .ok (.ireturn, 1) := by decide +kernel
theorem dX11_append_14 : decode cX11_append 14 = .ok (.aload_n 0, 1) := by decide +kernel
theorem dX11_append_15 : decode cX11_append 15 = .ok (.getfield 10, 3) := by decide +kernel
theorem dX11_append_18 : decode cX11_append 18 = .ok (.iload_n 1, 1) := by decide +kernel
theorem dX11_append_19 : decode cX11_append 19 = .ok (.i2c, 1) := by decide +kernel
theorem dX11_append_20 : decode cX11_append 20 = .ok (.invokevirtual 85, 3) := by decide +kernel
theorem dX11_append_23 : decode cX11_append 23 = .ok (.ifCond .eq 13, 3) := by decide +kernel
theorem dX11_append_26 : decode cX11_append 26 = .ok (.aload_n 0, 1) := by decide +kernel
theorem dX11_append_27 : decode cX11_append 27 = .ok (.getfield 10, 3) := by decide +kernel
theorem dX11_append_30 : decode cX11_append 30 = .ok (.invokevirtual 89, 3) := by decide +kernel
theorem dX11_append_33 : decode cX11_append 33 = .ok (.goto 5, 3) := by decide +kernel
theorem dX11_append_36 : decode cX11_append 36 = .ok (.bipush (-4), 2) := by decide +kernel
theorem dX11_append_38 : decode cX11_append 38 = .ok (.ireturn, 1) := by decide +kernel
theorem dX11_clearText_0 : decode cX11_clearText 0 = .ok (.aload_n 0, 1) := by decide +kernel
theorem dX11_clearText_1 : decode cX11_clearText 1 = .ok (.getfield 10, 3) := by decide +kernel
theorem dX11_clearText_4 : decode cX11_clearText 4 = .ok (.invokevirtual 89, 3) := by decide +kernel
theorem dX11_clearText_7 : decode cX11_clearText 7 = .ok (.istore_n 1, 1) := by decide +kernel
theorem dX11_clearText_8 : decode cX11_clearText 8 = .ok (.aload_n 0, 1) := by decide +kernel
theorem dX11_clearText_9 : decode cX11_clearText 9 = .ok (.getfield 10, 3) := by decide +kernel
theorem dX11_clearText_12 : decode cX11_clearText 12 = .ok (.invokevirtual 93, 3) := by decide +kernel
theorem dX11_clearText_15 : decode cX11_clearText 15 = .ok (.iload_n 1, 1) := by decide +kernel
theorem dX11_clearText_16 : decode cX11_clearText 16 = .ok (.ireturn, 1) := by decide +kernel
theorem dX11_errorPosition_0 : decode cX11_errorPosition 0 = .ok (.aload_n 0, 1) := by decide +kernel
theorem dX11_errorPosition_1 : decode cX11_errorPosition 1 = .ok (.getfield 10, 3) := by decide +kernel
theorem dX11_errorPosition_4 : decode cX11_errorPosition 4 = .ok (.invokevirtual 96, 3) := by decide +kernel
theorem dX11_errorPosition_7 : decode cX11_errorPosition 7 = .ok (.ireturn, 1) := by decide +kernel
theorem dX11_load_0 : decode cX11_load 0 = .ok (.aload_n 0, 1) := by decide +kernel
theorem dX11_load_1 : decode cX11_load 1 = .ok (.getfield 10, 3) := by decide +kernel
theorem dX11_load_4 : decode cX11_load 4 = .ok (.invokevirtual 96, 3) := by decide +kernel
theorem dX11_load_7 : decode cX11_load 7 = .ok (.bipush (-9), 2) := by decide +kernel
theorem dX11_load_9 : decode cX11_load 9 = .ok (.if_icmp .eq 6, 3) := by decide +kernel
theorem dX11_load_12 : decode cX11_load 12 = .ok (.bipush (-3), 2) := by decide +kernel
theorem dX11_load_14 : decode cX11_load 14 = .ok (.ireturn, 1) := by decide +kernel
theorem dX11_load_15 : decode cX11_load 15 = .ok (.aload_n 0, 1) := by decide +kernel
theorem dX11_load_16 : decode cX11_load 16 = .ok (.getfield 10, 3) := by decide +kernel
theorem dX11_load_19 : decode cX11_load 19 = .ok (.aload_n 0, 1) := by decide +kernel
theorem dX11_load_20 : decode cX11_load 20 = .ok (.getfield 19, 3) := by decide +kernel
theorem dX11_load_23 : decode cX11_load 23 = .ok (.invokevirtual 99, 3) := by decide +kernel
theorem dX11_load_26 : decode cX11_load 26 = .ok (.aload_n 0, 1) := by decide +kernel
theorem dX11_load_27 : decode cX11_load 27 = .ok (.getfield 10, 3) := by decide +kernel
theorem dX11_load_30 : decode cX11_load 30 = .ok (.aload_n 0, 1) := by decide +kernel
theorem dX11_load_31 : decode cX11_load 31 = .ok (.getfield 26, 3) := by decide +kernel
theorem dX11_load_34 : decode cX11_load 34 = .ok (.invokevirtual 103, 3) := by decide +kernel
theorem dX11_load_37 : decode cX11_load 37 = .ok (.aload_n 0, 1) := by decide +kernel
theorem dX11_load_38 : decode cX11_load 38 = .ok (.getfield 33, 3) := by decide +kernel
theorem dX11_load_41 : decode cX11_load 41 = .ok (.invokevirtual 106, 3) := by decide +kernel
theorem dX11_load_44 : decode cX11_load 44 = .ok (.aload_n 0, 1) := by decide +kernel
theorem dX11_load_45 : decode cX11_load 45 = .ok (.getfield 40, 3) := by decide +kernel
theorem dX11_load_48 : decode cX11_load 48 = .ok (.invokevirtual 109, 3) := by decide +kernel
theorem dX11_load_51 : decode cX11_load 51 = .ok (.aload_n 0, 1) := by decide +kernel
theorem dX11_load_52 : decode cX11_load 52 = .ok (.getfield 26, 3) := by decide +kernel
theorem dX11_load_55 : decode cX11_load 55 = .ok (.invokevirtual 110, 3) := by decide +kernel
theorem dX11_load_58 : decode cX11_load 58 = .ok (.ireturn, 1) := by decide +kernel
theorem dX11_sideLength_0 : decode cX11_sideLength 0 = .ok (.iload_n 1, 1) := by decide +kernel
theorem dX11_sideLength_1 : decode cX11_sideLength 1 = .ok (.invokestatic 111, 3) := by decide +kernel
theorem dX11_sideLength_4 : decode cX11_sideLength 4 = .ok (.ifCond .eq 17, 3) := by decide +kernel
theorem dX11_sideLength_7 : decode cX11_sideLength 7 = .ok (.aload_n 0, 1) := by decide +kernel
theorem dX11_sideLength_8 : decode cX11_sideLength 8 = .ok (.getfield 19, 3) := by decide +kernel
theorem dX11_sideLength_11 : decode cX11_sideLength 11 = .ok (.iload_n 1, 1) := by decide +kernel
theorem dX11_sideLength_12 : decode cX11_sideLength 12 = .ok (.invokevirtual 115, 3) := by decide +kernel
theorem dX11_sideLength_15 : decode cX11_sideLength 15 = .ok (.invokestatic 119, 3) := by decide +kernel
theorem dX11_sideLength_18 : decode cX11_sideLength 18 = .ok (.goto 4, 3) := by decide +kernel
theorem dX11_sideLength_21 : decode cX11_sideLength 21 = .ok (.iconst (-1), 1) := by decide +kernel
theorem dX11_sideLength_22 : decode cX11_sideLength 22 = .ok (.ireturn, 1) := by decide +kernel
theorem dX11_symbolAt_0 : decode cX11_symbolAt 0 = .ok (.iload_n 1, 1) := by decide +kernel
theorem dX11_symbolAt_1 : decode cX11_symbolAt 1 = .ok (.invokestatic 111, 3) := by decide +kernel
theorem dX11_symbolAt_4 : decode cX11_symbolAt 4 = .ok (.ifCond .eq 22, 3) := by decide +kernel
theorem dX11_symbolAt_7 : decode cX11_symbolAt 7 = .ok (.iload_n 2, 1) := by decide +kernel
theorem dX11_symbolAt_8 : decode cX11_symbolAt 8 = .ok (.ifCond .lt 18, 3) := by decide +kernel
theorem dX11_symbolAt_11 : decode cX11_symbolAt 11 = .ok (.iload_n 2, 1) := by decide +kernel
theorem dX11_symbolAt_12 : decode cX11_symbolAt 12 = .ok (.aload_n 0, 1) := by decide +kernel
theorem dX11_symbolAt_13 : decode cX11_symbolAt 13 = .ok (.getfield 19, 3) := by decide +kernel
theorem dX11_symbolAt_16 : decode cX11_symbolAt 16 = .ok (.iload_n 1, 1) := by decide +kernel
theorem dX11_symbolAt_17 : decode cX11_symbolAt 17 = .ok (.invokevirtual 115, 3) := by decide +kernel
theorem dX11_symbolAt_20 : decode cX11_symbolAt 20 = .ok (.invokestatic 119, 3) := by decide +kernel
theorem dX11_symbolAt_23 : decode cX11_symbolAt 23 = .ok (.if_icmp .lt 5, 3) := by decide +kernel
theorem dX11_symbolAt_26 : decode cX11_symbolAt 26 = .ok (.iconst (-1), 1) := by decide +kernel
theorem dX11_symbolAt_27 : decode cX11_symbolAt 27 = .ok (.ireturn, 1) := by decide +kernel
theorem dX11_symbolAt_28 : decode cX11_symbolAt 28 = .ok (.aload_n 0, 1) := by decide +kernel
theorem dX11_symbolAt_29 : decode cX11_symbolAt 29 = .ok (.getfield 19, 3) := by decide +kernel
theorem dX11_symbolAt_32 : decode cX11_symbolAt 32 = .ok (.iload_n 1, 1) := by decide +kernel
theorem dX11_symbolAt_33 : decode cX11_symbolAt 33 = .ok (.invokevirtual 115, 3) := by decide +kernel
theorem dX11_symbolAt_36 : decode cX11_symbolAt 36 = .ok (.iload_n 2, 1) := by decide +kernel
theorem dX11_symbolAt_37 : decode cX11_symbolAt 37 = .ok (.invokestatic 124, 3) := by decide +kernel
theorem dX11_symbolAt_40 : decode cX11_symbolAt 40 = .ok (.invokestatic 128, 3) := by decide +kernel
theorem dX11_symbolAt_43 : decode cX11_symbolAt 43 = .ok (.ireturn, 1) := by decide +kernel
theorem dX11_occurrences_0 : decode cX11_occurrences 0 = .ok (.iload_n 1, 1) := by decide +kernel
theorem dX11_occurrences_1 : decode cX11_occurrences 1 = .ok (.invokestatic 111, 3) := by decide +kernel
theorem dX11_occurrences_4 : decode cX11_occurrences 4 = .ok (.ifCond .eq 10, 3) := by decide +kernel
theorem dX11_occurrences_7 : decode cX11_occurrences 7 = .ok (.iload_n 2, 1) := by decide +kernel
theorem dX11_occurrences_8 : decode cX11_occurrences 8 = .ok (.invokestatic 132, 3) := by decide +kernel
theorem dX11_occurrences_11 : decode cX11_occurrences 11 = .ok (.ifCond .ne 5, 3) := by decide +kernel
theorem dX11_occurrences_14 : decode cX11_occurrences 14 = .ok (.iconst (-1), 1) := by decide +kernel
theorem dX11_occurrences_15 : decode cX11_occurrences 15 = .ok (.ireturn, 1) := by decide +kernel
theorem dX11_occurrences_16 : decode cX11_occurrences 16 = .ok (.aload_n 0, 1) := by decide +kernel
theorem dX11_occurrences_17 : decode cX11_occurrences 17 = .ok (.getfield 19, 3) := by decide +kernel
theorem dX11_occurrences_20 : decode cX11_occurrences 20 = .ok (.iload_n 1, 1) := by decide +kernel
theorem dX11_occurrences_21 : decode cX11_occurrences 21 = .ok (.invokevirtual 115, 3) := by decide +kernel
theorem dX11_occurrences_24 : decode cX11_occurrences 24 = .ok (.iload_n 2, 1) := by decide +kernel
theorem dX11_occurrences_25 : decode cX11_occurrences 25 = .ok (.invokestatic 135, 3) := by decide +kernel
theorem dX11_occurrences_28 : decode cX11_occurrences 28 = .ok (.invokestatic 139, 3) := by decide +kernel
theorem dX11_occurrences_31 : decode cX11_occurrences 31 = .ok (.ireturn, 1) := by decide +kernel
theorem dX11_swapSides_0 : decode cX11_swapSides 0 = .ok (.aload_n 0, 1) := by decide +kernel
theorem dX11_swapSides_1 : decode cX11_swapSides 1 = .ok (.getfield 33, 3) := by decide +kernel
theorem dX11_swapSides_4 : decode cX11_swapSides 4 = .ok (.aload_n 0, 1) := by decide +kernel
theorem dX11_swapSides_5 : decode cX11_swapSides 5 = .ok (.getfield 19, 3) := by decide +kernel
theorem dX11_swapSides_8 : decode cX11_swapSides 8 = .ok (.invokevirtual 142, 3) := by decide +kernel
theorem dX11_swapSides_11 : decode cX11_swapSides 11 = .ok (.aload_n 0, 1) := by decide +kernel
theorem dX11_swapSides_12 : decode cX11_swapSides 12 = .ok (.getfield 19, 3) := by decide +kernel
theorem dX11_swapSides_15 : decode cX11_swapSides 15 = .ok (.invokevirtual 145, 3) := by decide +kernel
theorem dX11_swapSides_18 : decode cX11_swapSides 18 = .ok (.aload_n 0, 1) := by decide +kernel
theorem dX11_swapSides_19 : decode cX11_swapSides 19 = .ok (.getfield 19, 3) := by decide +kernel
theorem dX11_swapSides_22 : decode cX11_swapSides 22 = .ok (.getfield 148, 3) := by decide +kernel
theorem dX11_swapSides_25 : decode cX11_swapSides 25 = .ok (.invokestatic 119, 3) := by decide +kernel
theorem dX11_swapSides_28 : decode cX11_swapSides 28 = .ok (.ireturn, 1) := by decide +kernel
theorem dX11_reverse_0 : decode cX11_reverse 0 = .ok (.aload_n 0, 1) := by decide +kernel
theorem dX11_reverse_1 : decode cX11_reverse 1 = .ok (.getfield 33, 3) := by decide +kernel
theorem dX11_reverse_4 : decode cX11_reverse 4 = .ok (.aload_n 0, 1) := by decide +kernel
theorem dX11_reverse_5 : decode cX11_reverse 5 = .ok (.getfield 19, 3) := by decide +kernel
theorem dX11_reverse_8 : decode cX11_reverse 8 = .ok (.invokevirtual 142, 3) := by decide +kernel
theorem dX11_reverse_11 : decode cX11_reverse 11 = .ok (.aload_n 0, 1) := by decide +kernel
theorem dX11_reverse_12 : decode cX11_reverse 12 = .ok (.getfield 19, 3) := by decide +kernel
theorem dX11_reverse_15 : decode cX11_reverse 15 = .ok (.invokevirtual 152, 3) := by decide +kernel
theorem dX11_reverse_18 : decode cX11_reverse 18 = .ok (.aload_n 0, 1) := by decide +kernel
theorem dX11_reverse_19 : decode cX11_reverse 19 = .ok (.getfield 19, 3) := by decide +kernel
theorem dX11_reverse_22 : decode cX11_reverse 22 = .ok (.invokevirtual 155, 3) := by decide +kernel
theorem dX11_reverse_25 : decode cX11_reverse 25 = .ok (.ireturn, 1) := by decide +kernel
theorem dX11_cancel_0 : decode cX11_cancel 0 = .ok (.aload_n 0, 1) := by decide +kernel
theorem dX11_cancel_1 : decode cX11_cancel 1 = .ok (.getfield 33, 3) := by decide +kernel
theorem dX11_cancel_4 : decode cX11_cancel 4 = .ok (.aload_n 0, 1) := by decide +kernel
theorem dX11_cancel_5 : decode cX11_cancel 5 = .ok (.getfield 19, 3) := by decide +kernel
theorem dX11_cancel_8 : decode cX11_cancel 8 = .ok (.invokevirtual 142, 3) := by decide +kernel
theorem dX11_cancel_11 : decode cX11_cancel 11 = .ok (.aload_n 0, 1) := by decide +kernel
theorem dX11_cancel_12 : decode cX11_cancel 12 = .ok (.getfield 19, 3) := by decide +kernel
theorem dX11_cancel_15 : decode cX11_cancel 15 = .ok (.invokevirtual 156, 3) := by decide +kernel
theorem dX11_cancel_18 : decode cX11_cancel 18 = .ok (.ireturn, 1) := by decide +kernel
theorem dX11_exchangeLetters_0 : decode cX11_exchangeLetters 0 = .ok (.aload_n 0, 1) := by decide +kernel
theorem dX11_exchangeLetters_1 : decode cX11_exchangeLetters 1 = .ok (.getfield 33, 3) := by decide +kernel
theorem dX11_exchangeLetters_4 : decode cX11_exchangeLetters 4 = .ok (.aload_n 0, 1) := by decide +kernel
theorem dX11_exchangeLetters_5 : decode cX11_exchangeLetters 5 = .ok (.getfield 19, 3) := by decide +kernel
theorem dX11_exchangeLetters_8 : decode cX11_exchangeLetters 8 = .ok (.invokevirtual 142, 3) := by decide +kernel
theorem dX11_exchangeLetters_11 : decode cX11_exchangeLetters 11 = .ok (.aload_n 0, 1) := by decide +kernel
theorem dX11_exchangeLetters_12 : decode cX11_exchangeLetters 12 = .ok (.getfield 19, 3) := by decide +kernel
theorem dX11_exchangeLetters_15 : decode cX11_exchangeLetters 15 = .ok (.invokevirtual 159, 3) := by decide +kernel
theorem dX11_exchangeLetters_18 : decode cX11_exchangeLetters 18 = .ok (.aload_n 0, 1) := by decide +kernel
theorem dX11_exchangeLetters_19 : decode cX11_exchangeLetters 19 = .ok (.getfield 19, 3) := by decide +kernel
theorem dX11_exchangeLetters_22 : decode cX11_exchangeLetters 22 = .ok (.iconst 1, 1) := by decide +kernel
theorem dX11_exchangeLetters_23 : decode cX11_exchangeLetters 23 = .ok (.invokevirtual 162, 3) := by decide +kernel
theorem dX11_exchangeLetters_26 : decode cX11_exchangeLetters 26 = .ok (.aload_n 0, 1) := by decide +kernel
theorem dX11_exchangeLetters_27 : decode cX11_exchangeLetters 27 = .ok (.getfield 19, 3) := by decide +kernel
theorem dX11_exchangeLetters_30 : decode cX11_exchangeLetters 30 = .ok (.iconst 2, 1) := by decide +kernel
theorem dX11_exchangeLetters_31 : decode cX11_exchangeLetters 31 = .ok (.invokevirtual 162, 3) := by decide +kernel
theorem dX11_exchangeLetters_34 : decode cX11_exchangeLetters 34 = .ok (.iadd, 1) := by decide +kernel
theorem dX11_exchangeLetters_35 : decode cX11_exchangeLetters 35 = .ok (.ireturn, 1) := by decide +kernel
theorem dX11_eliminate_0 : decode cX11_eliminate 0 = .ok (.iload_n 1, 1) := by decide +kernel
theorem dX11_eliminate_1 : decode cX11_eliminate 1 = .ok (.invokestatic 132, 3) := by decide +kernel
theorem dX11_eliminate_4 : decode cX11_eliminate 4 = .ok (.ifCond .ne 5, 3) := by decide +kernel
theorem dX11_eliminate_7 : decode cX11_eliminate 7 = .ok (.iconst (-1), 1) := by decide +kernel
theorem dX11_eliminate_8 : decode cX11_eliminate 8 = .ok (.ireturn, 1) := by decide +kernel
theorem dX11_eliminate_9 : decode cX11_eliminate 9 = .ok (.aload_n 0, 1) := by decide +kernel
theorem dX11_eliminate_10 : decode cX11_eliminate 10 = .ok (.getfield 33, 3) := by decide +kernel
theorem dX11_eliminate_13 : decode cX11_eliminate 13 = .ok (.aload_n 0, 1) := by decide +kernel
theorem dX11_eliminate_14 : decode cX11_eliminate 14 = .ok (.getfield 19, 3) := by decide +kernel
theorem dX11_eliminate_17 : decode cX11_eliminate 17 = .ok (.invokevirtual 142, 3) := by decide +kernel
theorem dX11_eliminate_20 : decode cX11_eliminate 20 = .ok (.aload_n 0, 1) := by decide +kernel
theorem dX11_eliminate_21 : decode cX11_eliminate 21 = .ok (.getfield 19, 3) := by decide +kernel
theorem dX11_eliminate_24 : decode cX11_eliminate 24 = .ok (.iload_n 1, 1) := by decide +kernel
theorem dX11_eliminate_25 : decode cX11_eliminate 25 = .ok (.invokestatic 135, 3) := by decide +kernel
theorem dX11_eliminate_28 : decode cX11_eliminate 28 = .ok (.lconst 0, 1) := by decide +kernel
theorem dX11_eliminate_29 : decode cX11_eliminate 29 = .ok (.invokevirtual 165, 3) := by decide +kernel
theorem dX11_eliminate_32 : decode cX11_eliminate 32 = .ok (.ireturn, 1) := by decide +kernel
theorem dX11_substitute_0 : decode cX11_substitute 0 = .ok (.iload_n 1, 1) := by decide +kernel
theorem dX11_substitute_1 : decode cX11_substitute 1 = .ok (.invokestatic 132, 3) := by decide +kernel
theorem dX11_substitute_4 : decode cX11_substitute 4 = .ok (.ifCond .ne 5, 3) := by decide +kernel
theorem dX11_substitute_7 : decode cX11_substitute 7 = .ok (.iconst (-1), 1) := by decide +kernel
theorem dX11_substitute_8 : decode cX11_substitute 8 = .ok (.ireturn, 1) := by decide +kernel
theorem dX11_substitute_9 : decode cX11_substitute 9 = .ok (.aload_n 0, 1) := by decide +kernel
theorem dX11_substitute_10 : decode cX11_substitute 10 = .ok (.getfield 10, 3) := by decide +kernel
theorem dX11_substitute_13 : decode cX11_substitute 13 = .ok (.invokevirtual 169, 3) := by decide +kernel
theorem dX11_substitute_16 : decode cX11_substitute 16 = .ok (.ifCond .ne 6, 3) := by decide +kernel
theorem dX11_substitute_19 : decode cX11_substitute 19 = .ok (.bipush (-3), 2) := by decide +kernel
theorem dX11_substitute_21 : decode cX11_substitute 21 = .ok (.ireturn, 1) := by decide +kernel
theorem dX11_substitute_22 : decode cX11_substitute 22 = .ok (.iload_n 1, 1) := by decide +kernel
theorem dX11_substitute_23 : decode cX11_substitute 23 = .ok (.invokestatic 135, 3) := by decide +kernel
theorem dX11_substitute_26 : decode cX11_substitute 26 = .ok (.istore_n 2, 1) := by decide +kernel
theorem dX11_substitute_27 : decode cX11_substitute 27 = .ok (.aload_n 0, 1) := by decide +kernel
theorem dX11_substitute_28 : decode cX11_substitute 28 = .ok (.getfield 19, 3) := by decide +kernel
theorem dX11_substitute_31 : decode cX11_substitute 31 = .ok (.iload_n 2, 1) := by decide +kernel
theorem dX11_substitute_32 : decode cX11_substitute 32 = .ok (.aload_n 0, 1) := by decide +kernel
theorem dX11_substitute_33 : decode cX11_substitute 33 = .ok (.getfield 10, 3) := by decide +kernel
theorem dX11_substitute_36 : decode cX11_substitute 36 = .ok (.invokevirtual 89, 3) := by decide +kernel
theorem dX11_substitute_39 : decode cX11_substitute 39 = .ok (.invokevirtual 173, 3) := by decide +kernel
theorem dX11_substitute_42 : decode cX11_substitute 42 = .ok (.bipush 12, 2) := by decide +kernel
theorem dX11_substitute_44 : decode cX11_substitute 44 = .ok (.if_icmp .le 6, 3) := by decide +kernel
theorem dX11_substitute_47 : decode cX11_substitute 47 = .ok (.bipush (-4), 2) := by decide +kernel
theorem dX11_substitute_49 : decode cX11_substitute 49 = .ok (.ireturn, 1) := by decide +kernel
theorem dX11_substitute_50 : decode cX11_substitute 50 = .ok (.aload_n 0, 1) := by decide +kernel
theorem dX11_substitute_51 : decode cX11_substitute 51 = .ok (.getfield 33, 3) := by decide +kernel
theorem dX11_substitute_54 : decode cX11_substitute 54 = .ok (.aload_n 0, 1) := by decide +kernel
theorem dX11_substitute_55 : decode cX11_substitute 55 = .ok (.getfield 19, 3) := by decide +kernel
theorem dX11_substitute_58 : decode cX11_substitute 58 = .ok (.invokevirtual 142, 3) := by decide +kernel
theorem dX11_substitute_61 : decode cX11_substitute 61 = .ok (.aload_n 0, 1) := by decide +kernel
theorem dX11_substitute_62 : decode cX11_substitute 62 = .ok (.getfield 19, 3) := by decide +kernel
theorem dX11_substitute_65 : decode cX11_substitute 65 = .ok (.iload_n 2, 1) := by decide +kernel
theorem dX11_substitute_66 : decode cX11_substitute 66 = .ok (.aload_n 0, 1) := by decide +kernel
theorem dX11_substitute_67 : decode cX11_substitute 67 = .ok (.getfield 10, 3) := by decide +kernel
theorem dX11_substitute_70 : decode cX11_substitute 70 = .ok (.iconst 0, 1) := by decide +kernel
theorem dX11_substitute_71 : decode cX11_substitute 71 = .ok (.aload_n 0, 1) := by decide +kernel
theorem dX11_substitute_72 : decode cX11_substitute 72 = .ok (.getfield 10, 3) := by decide +kernel
theorem dX11_substitute_75 : decode cX11_substitute 75 = .ok (.invokevirtual 89, 3) := by decide +kernel
theorem dX11_substitute_78 : decode cX11_substitute 78 = .ok (.invokevirtual 177, 3) := by decide +kernel
theorem dX11_substitute_81 : decode cX11_substitute 81 = .ok (.invokevirtual 165, 3) := by decide +kernel
theorem dX11_substitute_84 : decode cX11_substitute 84 = .ok (.ireturn, 1) := by decide +kernel
theorem dX11_undo_0 : decode cX11_undo 0 = .ok (.aload_n 0, 1) := by decide +kernel
theorem dX11_undo_1 : decode cX11_undo 1 = .ok (.getfield 33, 3) := by decide +kernel
theorem dX11_undo_4 : decode cX11_undo 4 = .ok (.invokevirtual 181, 3) := by decide +kernel
theorem dX11_undo_7 : decode cX11_undo 7 = .ok (.ifCond .ne 6, 3) := by decide +kernel
theorem dX11_undo_10 : decode cX11_undo 10 = .ok (.bipush (-3), 2) := by decide +kernel
theorem dX11_undo_12 : decode cX11_undo 12 = .ok (.ireturn, 1) := by decide +kernel
theorem dX11_undo_13 : decode cX11_undo 13 = .ok (.aload_n 0, 1) := by decide +kernel
theorem dX11_undo_14 : decode cX11_undo 14 = .ok (.getfield 33, 3) := by decide +kernel
theorem dX11_undo_17 : decode cX11_undo 17 = .ok (.aload_n 0, 1) := by decide +kernel
theorem dX11_undo_18 : decode cX11_undo 18 = .ok (.getfield 19, 3) := by decide +kernel
theorem dX11_undo_21 : decode cX11_undo 21 = .ok (.invokevirtual 182, 3) := by decide +kernel
theorem dX11_undo_24 : decode cX11_undo 24 = .ok (.aload_n 0, 1) := by decide +kernel
theorem dX11_undo_25 : decode cX11_undo 25 = .ok (.getfield 33, 3) := by decide +kernel
theorem dX11_undo_28 : decode cX11_undo 28 = .ok (.invokevirtual 181, 3) := by decide +kernel
theorem dX11_undo_31 : decode cX11_undo 31 = .ok (.ireturn, 1) := by decide +kernel
theorem dX11_satisfies_0 : decode cX11_satisfies 0 = .ok (.iload_n 1, 1) := by decide +kernel
theorem dX11_satisfies_1 : decode cX11_satisfies 1 = .ok (.invokestatic 185, 3) := by decide +kernel
theorem dX11_satisfies_4 : decode cX11_satisfies 4 = .ok (.ifCond .eq 25, 3) := by decide +kernel
theorem dX11_satisfies_7 : decode cX11_satisfies 7 = .ok (.iload_n 2, 1) := by decide +kernel
theorem dX11_satisfies_8 : decode cX11_satisfies 8 = .ok (.invokestatic 185, 3) := by decide +kernel
theorem dX11_satisfies_11 : decode cX11_satisfies 11 = .ok (.ifCond .eq 18, 3) := by decide +kernel
theorem dX11_satisfies_14 : decode cX11_satisfies 14 = .ok (.iload_n 3, 1) := by decide +kernel
theorem dX11_satisfies_15 : decode cX11_satisfies 15 = .ok (.invokestatic 185, 3) := by decide +kernel
theorem dX11_satisfies_18 : decode cX11_satisfies 18 = .ok (.ifCond .eq 11, 3) := by decide +kernel
theorem dX11_satisfies_21 : decode cX11_satisfies 21 = .ok (.iload 4, 2) := by decide +kernel
theorem dX11_satisfies_23 : decode cX11_satisfies 23 = .ok (.invokestatic 185, 3) := by decide +kernel
theorem dX11_satisfies_26 : decode cX11_satisfies 26 = .ok (.ifCond .ne 6, 3) := by decide +kernel
theorem dX11_satisfies_29 : decode cX11_satisfies 29 = .ok (.bipush (-2), 2) := by decide +kernel
theorem dX11_satisfies_31 : decode cX11_satisfies 31 = .ok (.ireturn, 1) := by decide +kernel
theorem dX11_satisfies_32 : decode cX11_satisfies 32 = .ok (.aload_n 0, 1) := by decide +kernel
theorem dX11_satisfies_33 : decode cX11_satisfies 33 = .ok (.iload_n 1, 1) := by decide +kernel
theorem dX11_satisfies_34 : decode cX11_satisfies 34 = .ok (.iload_n 2, 1) := by decide +kernel
theorem dX11_satisfies_35 : decode cX11_satisfies 35 = .ok (.iload_n 3, 1) := by decide +kernel
theorem dX11_satisfies_36 : decode cX11_satisfies 36 = .ok (.iload 4, 2) := by decide +kernel
theorem dX11_satisfies_38 : decode cX11_satisfies 38 = .ok (.invokevirtual 188, 3) := by decide +kernel
theorem dX11_satisfies_41 : decode cX11_satisfies 41 = .ok (.ifCond .eq 7, 3) := by decide +kernel
theorem dX11_satisfies_44 : decode cX11_satisfies 44 = .ok (.iconst 1, 1) := by decide +kernel
theorem dX11_satisfies_45 : decode cX11_satisfies 45 = .ok (.goto 4, 3) := by decide +kernel
theorem dX11_satisfies_48 : decode cX11_satisfies 48 = .ok (.iconst 0, 1) := by decide +kernel
theorem dX11_satisfies_49 : decode cX11_satisfies 49 = .ok (.ireturn, 1) := by decide +kernel
theorem dX11_countSolutions_0 : decode cX11_countSolutions 0 = .ok (.iload_n 1, 1) := by decide +kernel
theorem dX11_countSolutions_1 : decode cX11_countSolutions 1 = .ok (.ifCond .lt 8, 3) := by decide +kernel
theorem dX11_countSolutions_4 : decode cX11_countSolutions 4 = .ok (.iload_n 1, 1) := by decide +kernel
theorem dX11_countSolutions_5 : decode cX11_countSolutions 5 = .ok (.iconst 3, 1) := by decide +kernel
theorem dX11_countSolutions_6 : decode cX11_countSolutions 6 = .ok (.if_icmp .le 6, 3) := by decide +kernel
theorem dX11_countSolutions_9 : decode cX11_countSolutions 9 = .ok (.bipush (-2), 2) := by decide +kernel
theorem dX11_countSolutions_11 : decode cX11_countSolutions 11 = .ok (.ireturn, 1) := by decide +kernel
theorem dX11_countSolutions_12 : decode cX11_countSolutions 12 = .ok (.aload_n 0, 1) := by decide +kernel
theorem dX11_countSolutions_13 : decode cX11_countSolutions 13 = .ok (.getfield 65, 3) := by decide +kernel
theorem dX11_countSolutions_16 : decode cX11_countSolutions 16 = .ok (.aload_n 0, 1) := by decide +kernel
theorem dX11_countSolutions_17 : decode cX11_countSolutions 17 = .ok (.getfield 19, 3) := by decide +kernel
theorem dX11_countSolutions_20 : decode cX11_countSolutions 20 = .ok (.iload_n 1, 1) := by decide +kernel
theorem dX11_countSolutions_21 : decode cX11_countSolutions 21 = .ok (.invokevirtual 192, 3) := by decide +kernel
theorem dX11_countSolutions_24 : decode cX11_countSolutions 24 = .ok (.ireturn, 1) := by decide +kernel
theorem dX11_firstSolution_0 : decode cX11_firstSolution 0 = .ok (.iload_n 2, 1) := by decide +kernel
theorem dX11_firstSolution_1 : decode cX11_firstSolution 1 = .ok (.invokestatic 132, 3) := by decide +kernel
theorem dX11_firstSolution_4 : decode cX11_firstSolution 4 = .ok (.ifCond .ne 5, 3) := by decide +kernel
theorem dX11_firstSolution_7 : decode cX11_firstSolution 7 = .ok (.iconst (-1), 1) := by decide +kernel
theorem dX11_firstSolution_8 : decode cX11_firstSolution 8 = .ok (.ireturn, 1) := by decide +kernel
theorem dX11_firstSolution_9 : decode cX11_firstSolution 9 = .ok (.iload_n 1, 1) := by decide +kernel
theorem dX11_firstSolution_10 : decode cX11_firstSolution 10 = .ok (.ifCond .lt 8, 3) := by decide +kernel
theorem dX11_firstSolution_13 : decode cX11_firstSolution 13 = .ok (.iload_n 1, 1) := by decide +kernel
theorem dX11_firstSolution_14 : decode cX11_firstSolution 14 = .ok (.iconst 3, 1) := by decide +kernel
theorem dX11_firstSolution_15 : decode cX11_firstSolution 15 = .ok (.if_icmp .le 6, 3) := by decide +kernel
theorem dX11_firstSolution_18 : decode cX11_firstSolution 18 = .ok (.bipush (-2), 2) := by decide +kernel
theorem dX11_firstSolution_20 : decode cX11_firstSolution 20 = .ok (.ireturn, 1) := by decide +kernel
theorem dX11_firstSolution_21 : decode cX11_firstSolution 21 = .ok (.aload_n 0, 1) := by decide +kernel
theorem dX11_firstSolution_22 : decode cX11_firstSolution 22 = .ok (.getfield 65, 3) := by decide +kernel
theorem dX11_firstSolution_25 : decode cX11_firstSolution 25 = .ok (.aload_n 0, 1) := by decide +kernel
theorem dX11_firstSolution_26 : decode cX11_firstSolution 26 = .ok (.getfield 19, 3) := by decide +kernel
theorem dX11_firstSolution_29 : decode cX11_firstSolution 29 = .ok (.iload_n 1, 1) := by decide +kernel
theorem dX11_firstSolution_30 : decode cX11_firstSolution 30 = .ok (.invokevirtual 192, 3) := by decide +kernel
theorem dX11_firstSolution_33 : decode cX11_firstSolution 33 = .ok (.ifCond .ne 8, 3) := by decide +kernel
theorem dX11_firstSolution_36 : decode cX11_firstSolution 36 = .ok (.bipush (-9), 2) := by decide +kernel
theorem dX11_firstSolution_38 : decode cX11_firstSolution 38 = .ok (.goto 11, 3) := by decide +kernel
theorem dX11_firstSolution_41 : decode cX11_firstSolution 41 = .ok (.aload_n 0, 1) := by decide +kernel
theorem dX11_firstSolution_42 : decode cX11_firstSolution 42 = .ok (.getfield 65, 3) := by decide +kernel
theorem dX11_firstSolution_45 : decode cX11_firstSolution 45 = .ok (.iload_n 2, 1) := by decide +kernel
theorem dX11_firstSolution_46 : decode cX11_firstSolution 46 = .ok (.invokevirtual 196, 3) := by decide +kernel
theorem dX11_firstSolution_49 : decode cX11_firstSolution 49 = .ok (.ireturn, 1) := by decide +kernel
theorem dX11_leastTotalLength_0 : decode cX11_leastTotalLength 0 = .ok (.iload_n 1, 1) := by decide +kernel
theorem dX11_leastTotalLength_1 : decode cX11_leastTotalLength 1 = .ok (.ifCond .lt 8, 3) := by decide +kernel
theorem dX11_leastTotalLength_4 : decode cX11_leastTotalLength 4 = .ok (.iload_n 1, 1) := by decide +kernel
theorem dX11_leastTotalLength_5 : decode cX11_leastTotalLength 5 = .ok (.iconst 3, 1) := by decide +kernel
theorem dX11_leastTotalLength_6 : decode cX11_leastTotalLength 6 = .ok (.if_icmp .le 6, 3) := by decide +kernel
theorem dX11_leastTotalLength_9 : decode cX11_leastTotalLength 9 = .ok (.bipush (-2), 2) := by decide +kernel
theorem dX11_leastTotalLength_11 : decode cX11_leastTotalLength 11 = .ok (.ireturn, 1) := by decide +kernel
theorem dX11_leastTotalLength_12 : decode cX11_leastTotalLength 12 = .ok (.aload_n 0, 1) := by decide +kernel
theorem dX11_leastTotalLength_13 : decode cX11_leastTotalLength 13 = .ok (.getfield 65, 3) := by decide +kernel
theorem dX11_leastTotalLength_16 : decode cX11_leastTotalLength 16 = .ok (.aload_n 0, 1) := by decide +kernel
theorem dX11_leastTotalLength_17 : decode cX11_leastTotalLength 17 = .ok (.getfield 19, 3) := by decide +kernel
theorem dX11_leastTotalLength_20 : decode cX11_leastTotalLength 20 = .ok (.iload_n 1, 1) := by decide +kernel
theorem dX11_leastTotalLength_21 : decode cX11_leastTotalLength 21 = .ok (.invokevirtual 192, 3) := by decide +kernel
theorem dX11_leastTotalLength_24 : decode cX11_leastTotalLength 24 = .ok (.ifCond .ne 8, 3) := by decide +kernel
theorem dX11_leastTotalLength_27 : decode cX11_leastTotalLength 27 = .ok (.bipush (-9), 2) := by decide +kernel
theorem dX11_leastTotalLength_29 : decode cX11_leastTotalLength 29 = .ok (.goto 10, 3) := by decide +kernel
theorem dX11_leastTotalLength_32 : decode cX11_leastTotalLength 32 = .ok (.aload_n 0, 1) := by decide +kernel
theorem dX11_leastTotalLength_33 : decode cX11_leastTotalLength 33 = .ok (.getfield 65, 3) := by decide +kernel
theorem dX11_leastTotalLength_36 : decode cX11_leastTotalLength 36 = .ok (.invokevirtual 199, 3) := by decide +kernel
theorem dX11_leastTotalLength_39 : decode cX11_leastTotalLength 39 = .ok (.ireturn, 1) := by decide +kernel
theorem dX11_countLengths_0 : decode cX11_countLengths 0 = .ok (.iload_n 1, 1) := by decide +kernel
theorem dX11_countLengths_1 : decode cX11_countLengths 1 = .ok (.ifCond .lt 9, 3) := by decide +kernel
theorem dX11_countLengths_4 : decode cX11_countLengths 4 = .ok (.iload_n 1, 1) := by decide +kernel
theorem dX11_countLengths_5 : decode cX11_countLengths 5 = .ok (.bipush 9, 2) := by decide +kernel
theorem dX11_countLengths_7 : decode cX11_countLengths 7 = .ok (.if_icmp .le 6, 3) := by decide +kernel
theorem dX11_countLengths_10 : decode cX11_countLengths 10 = .ok (.bipush (-2), 2) := by decide +kernel
theorem dX11_countLengths_12 : decode cX11_countLengths 12 = .ok (.ireturn, 1) := by decide +kernel
theorem dX11_countLengths_13 : decode cX11_countLengths 13 = .ok (.aload_n 0, 1) := by decide +kernel
theorem dX11_countLengths_14 : decode cX11_countLengths 14 = .ok (.getfield 56, 3) := by decide +kernel
theorem dX11_countLengths_17 : decode cX11_countLengths 17 = .ok (.aload_n 0, 1) := by decide +kernel
theorem dX11_countLengths_18 : decode cX11_countLengths 18 = .ok (.getfield 19, 3) := by decide +kernel
theorem dX11_countLengths_21 : decode cX11_countLengths 21 = .ok (.iload_n 1, 1) := by decide +kernel
theorem dX11_countLengths_22 : decode cX11_countLengths 22 = .ok (.invokevirtual 202, 3) := by decide +kernel
theorem dX11_countLengths_25 : decode cX11_countLengths 25 = .ok (.aload_n 0, 1) := by decide +kernel
theorem dX11_countLengths_26 : decode cX11_countLengths 26 = .ok (.getfield 56, 3) := by decide +kernel
theorem dX11_countLengths_29 : decode cX11_countLengths 29 = .ok (.invokevirtual 206, 3) := by decide +kernel
theorem dX11_countLengths_32 : decode cX11_countLengths 32 = .ok (.ireturn, 1) := by decide +kernel
theorem dX11_refutedByCounting_0 : decode cX11_refutedByCounting 0 = .ok (.iconst 0, 1) := by decide +kernel
theorem dX11_refutedByCounting_1 : decode cX11_refutedByCounting 1 = .ok (.istore_n 1, 1) := by decide +kernel
theorem dX11_refutedByCounting_2 : decode cX11_refutedByCounting 2 = .ok (.iload_n 1, 1) := by decide +kernel
theorem dX11_refutedByCounting_3 : decode cX11_refutedByCounting 3 = .ok (.iconst 4, 1) := by decide +kernel
theorem dX11_refutedByCounting_4 : decode cX11_refutedByCounting 4 = .ok (.if_icmp .ge 25, 3) := by decide +kernel
theorem dX11_refutedByCounting_7 : decode cX11_refutedByCounting 7 = .ok (.aload_n 0, 1) := by decide +kernel
theorem dX11_refutedByCounting_8 : decode cX11_refutedByCounting 8 = .ok (.getfield 19, 3) := by decide +kernel
theorem dX11_refutedByCounting_11 : decode cX11_refutedByCounting 11 = .ok (.iload_n 1, 1) := by decide +kernel
theorem dX11_refutedByCounting_12 : decode cX11_refutedByCounting 12 = .ok (.invokestatic 135, 3) := by decide +kernel
theorem dX11_refutedByCounting_15 : decode cX11_refutedByCounting 15 = .ok (.invokevirtual 208, 3) := by decide +kernel
theorem dX11_refutedByCounting_18 : decode cX11_refutedByCounting 18 = .ok (.ifCond .eq 5, 3) := by decide +kernel
theorem dX11_refutedByCounting_21 : decode cX11_refutedByCounting 21 = .ok (.iconst 0, 1) := by decide +kernel
theorem dX11_refutedByCounting_22 : decode cX11_refutedByCounting 22 = .ok (.ireturn, 1) := by decide +kernel
theorem dX11_refutedByCounting_23 : decode cX11_refutedByCounting 23 = .ok (.iinc 1 1, 3) := by decide +kernel
theorem dX11_refutedByCounting_26 : decode cX11_refutedByCounting 26 = .ok (.goto (-24), 3) := by decide +kernel
theorem dX11_refutedByCounting_29 : decode cX11_refutedByCounting 29 = .ok (.aload_n 0, 1) := by decide +kernel
theorem dX11_refutedByCounting_30 : decode cX11_refutedByCounting 30 = .ok (.getfield 19, 3) := by decide +kernel
theorem dX11_refutedByCounting_33 : decode cX11_refutedByCounting 33 = .ok (.iconst 1, 1) := by decide +kernel
theorem dX11_refutedByCounting_34 : decode cX11_refutedByCounting 34 = .ok (.invokevirtual 208, 3) := by decide +kernel
theorem dX11_refutedByCounting_37 : decode cX11_refutedByCounting 37 = .ok (.ifCond .ne 18, 3) := by decide +kernel
theorem dX11_refutedByCounting_40 : decode cX11_refutedByCounting 40 = .ok (.aload_n 0, 1) := by decide +kernel
theorem dX11_refutedByCounting_41 : decode cX11_refutedByCounting 41 = .ok (.getfield 19, 3) := by decide +kernel
theorem dX11_refutedByCounting_44 : decode cX11_refutedByCounting 44 = .ok (.iconst 2, 1) := by decide +kernel
theorem dX11_refutedByCounting_45 : decode cX11_refutedByCounting 45 = .ok (.invokevirtual 208, 3) := by decide +kernel
theorem dX11_refutedByCounting_48 : decode cX11_refutedByCounting 48 = .ok (.ifCond .ne 7, 3) := by decide +kernel
theorem dX11_refutedByCounting_51 : decode cX11_refutedByCounting 51 = .ok (.iconst 1, 1) := by decide +kernel
theorem dX11_refutedByCounting_52 : decode cX11_refutedByCounting 52 = .ok (.goto 4, 3) := by decide +kernel
theorem dX11_refutedByCounting_55 : decode cX11_refutedByCounting 55 = .ok (.iconst 0, 1) := by decide +kernel
theorem dX11_refutedByCounting_56 : decode cX11_refutedByCounting 56 = .ok (.istore_n 1, 1) := by decide +kernel
theorem dX11_refutedByCounting_57 : decode cX11_refutedByCounting 57 = .ok (.iload_n 1, 1) := by decide +kernel
theorem dX11_refutedByCounting_58 : decode cX11_refutedByCounting 58 = .ok (.ifCond .eq 7, 3) := by decide +kernel
theorem dX11_refutedByCounting_61 : decode cX11_refutedByCounting 61 = .ok (.iconst 0, 1) := by decide +kernel
theorem dX11_refutedByCounting_62 : decode cX11_refutedByCounting 62 = .ok (.goto 4, 3) := by decide +kernel
theorem dX11_refutedByCounting_65 : decode cX11_refutedByCounting 65 = .ok (.iconst 1, 1) := by decide +kernel
theorem dX11_refutedByCounting_66 : decode cX11_refutedByCounting 66 = .ok (.ireturn, 1) := by decide +kernel
theorem dX11_decide_0 : decode cX11_decide 0 = .ok (.aload_n 0, 1) := by decide +kernel
theorem dX11_decide_1 : decode cX11_decide 1 = .ok (.getfield 72, 3) := by decide +kernel
theorem dX11_decide_4 : decode cX11_decide 4 = .ok (.aload_n 0, 1) := by decide +kernel
theorem dX11_decide_5 : decode cX11_decide 5 = .ok (.getfield 19, 3) := by decide +kernel
theorem dX11_decide_8 : decode cX11_decide 8 = .ok (.invokevirtual 211, 3) := by decide +kernel
theorem dX11_decide_11 : decode cX11_decide 11 = .ok (.ireturn, 1) := by decide +kernel
theorem dX11_nodeCount_0 : decode cX11_nodeCount 0 = .ok (.aload_n 0, 1) := by decide +kernel
theorem dX11_nodeCount_1 : decode cX11_nodeCount 1 = .ok (.getfield 72, 3) := by decide +kernel
theorem dX11_nodeCount_4 : decode cX11_nodeCount 4 = .ok (.aload_n 0, 1) := by decide +kernel
theorem dX11_nodeCount_5 : decode cX11_nodeCount 5 = .ok (.getfield 19, 3) := by decide +kernel
theorem dX11_nodeCount_8 : decode cX11_nodeCount 8 = .ok (.invokevirtual 211, 3) := by decide +kernel
theorem dX11_nodeCount_11 : decode cX11_nodeCount 11 = .ok (.pop, 1) := by decide +kernel
theorem dX11_nodeCount_12 : decode cX11_nodeCount 12 = .ok (.aload_n 0, 1) := by decide +kernel
theorem dX11_nodeCount_13 : decode cX11_nodeCount 13 = .ok (.getfield 72, 3) := by decide +kernel
theorem dX11_nodeCount_16 : decode cX11_nodeCount 16 = .ok (.invokevirtual 215, 3) := by decide +kernel
theorem dX11_nodeCount_19 : decode cX11_nodeCount 19 = .ok (.ireturn, 1) := by decide +kernel
theorem dX11_proofLength_0 : decode cX11_proofLength 0 = .ok (.aload_n 0, 1) := by decide +kernel
theorem dX11_proofLength_1 : decode cX11_proofLength 1 = .ok (.getfield 72, 3) := by decide +kernel
theorem dX11_proofLength_4 : decode cX11_proofLength 4 = .ok (.aload_n 0, 1) := by decide +kernel
theorem dX11_proofLength_5 : decode cX11_proofLength 5 = .ok (.getfield 19, 3) := by decide +kernel
theorem dX11_proofLength_8 : decode cX11_proofLength 8 = .ok (.invokevirtual 211, 3) := by decide +kernel
theorem dX11_proofLength_11 : decode cX11_proofLength 11 = .ok (.iconst 1, 1) := by decide +kernel
theorem dX11_proofLength_12 : decode cX11_proofLength 12 = .ok (.if_icmp .ne 13, 3) := by decide +kernel
theorem dX11_proofLength_15 : decode cX11_proofLength 15 = .ok (.aload_n 0, 1) := by decide +kernel
theorem dX11_proofLength_16 : decode cX11_proofLength 16 = .ok (.getfield 72, 3) := by decide +kernel
theorem dX11_proofLength_19 : decode cX11_proofLength 19 = .ok (.invokevirtual 216, 3) := by decide +kernel
theorem dX11_proofLength_22 : decode cX11_proofLength 22 = .ok (.goto 5, 3) := by decide +kernel
theorem dX11_proofLength_25 : decode cX11_proofLength 25 = .ok (.bipush (-9), 2) := by decide +kernel
theorem dX11_proofLength_27 : decode cX11_proofLength 27 = .ok (.ireturn, 1) := by decide +kernel
theorem dX11_proofRule_0 : decode cX11_proofRule 0 = .ok (.aload_n 0, 1) := by decide +kernel
theorem dX11_proofRule_1 : decode cX11_proofRule 1 = .ok (.getfield 72, 3) := by decide +kernel
theorem dX11_proofRule_4 : decode cX11_proofRule 4 = .ok (.aload_n 0, 1) := by decide +kernel
theorem dX11_proofRule_5 : decode cX11_proofRule 5 = .ok (.getfield 19, 3) := by decide +kernel
theorem dX11_proofRule_8 : decode cX11_proofRule 8 = .ok (.invokevirtual 211, 3) := by decide +kernel
theorem dX11_proofRule_11 : decode cX11_proofRule 11 = .ok (.iconst 1, 1) := by decide +kernel
theorem dX11_proofRule_12 : decode cX11_proofRule 12 = .ok (.if_icmp .eq 6, 3) := by decide +kernel
theorem dX11_proofRule_15 : decode cX11_proofRule 15 = .ok (.bipush (-9), 2) := by decide +kernel
theorem dX11_proofRule_17 : decode cX11_proofRule 17 = .ok (.ireturn, 1) := by decide +kernel
theorem dX11_proofRule_18 : decode cX11_proofRule 18 = .ok (.iload_n 1, 1) := by decide +kernel
theorem dX11_proofRule_19 : decode cX11_proofRule 19 = .ok (.ifCond .lt 14, 3) := by decide +kernel
theorem dX11_proofRule_22 : decode cX11_proofRule 22 = .ok (.iload_n 1, 1) := by decide +kernel
theorem dX11_proofRule_23 : decode cX11_proofRule 23 = .ok (.aload_n 0, 1) := by decide +kernel
theorem dX11_proofRule_24 : decode cX11_proofRule 24 = .ok (.getfield 72, 3) := by decide +kernel
theorem dX11_proofRule_27 : decode cX11_proofRule 27 = .ok (.invokevirtual 216, 3) := by decide +kernel
theorem dX11_proofRule_30 : decode cX11_proofRule 30 = .ok (.if_icmp .lt 7, 3) := by decide +kernel
theorem dX11_proofRule_33 : decode cX11_proofRule 33 = .ok (.iconst (-1), 1) := by decide +kernel
theorem dX11_proofRule_34 : decode cX11_proofRule 34 = .ok (.goto 11, 3) := by decide +kernel
theorem dX11_proofRule_37 : decode cX11_proofRule 37 = .ok (.aload_n 0, 1) := by decide +kernel
theorem dX11_proofRule_38 : decode cX11_proofRule 38 = .ok (.getfield 72, 3) := by decide +kernel
theorem dX11_proofRule_41 : decode cX11_proofRule 41 = .ok (.iload_n 1, 1) := by decide +kernel
theorem dX11_proofRule_42 : decode cX11_proofRule 42 = .ok (.invokevirtual 219, 3) := by decide +kernel
theorem dX11_proofRule_45 : decode cX11_proofRule 45 = .ok (.ireturn, 1) := by decide +kernel
theorem dX11_witnessLength_0 : decode cX11_witnessLength 0 = .ok (.iload_n 1, 1) := by decide +kernel
theorem dX11_witnessLength_1 : decode cX11_witnessLength 1 = .ok (.invokestatic 132, 3) := by decide +kernel
theorem dX11_witnessLength_4 : decode cX11_witnessLength 4 = .ok (.ifCond .ne 5, 3) := by decide +kernel
theorem dX11_witnessLength_7 : decode cX11_witnessLength 7 = .ok (.iconst (-1), 1) := by decide +kernel
theorem dX11_witnessLength_8 : decode cX11_witnessLength 8 = .ok (.ireturn, 1) := by decide +kernel
theorem dX11_witnessLength_9 : decode cX11_witnessLength 9 = .ok (.aload_n 0, 1) := by decide +kernel
theorem dX11_witnessLength_10 : decode cX11_witnessLength 10 = .ok (.getfield 72, 3) := by decide +kernel
theorem dX11_witnessLength_13 : decode cX11_witnessLength 13 = .ok (.aload_n 0, 1) := by decide +kernel
theorem dX11_witnessLength_14 : decode cX11_witnessLength 14 = .ok (.getfield 19, 3) := by decide +kernel
theorem dX11_witnessLength_17 : decode cX11_witnessLength 17 = .ok (.invokevirtual 211, 3) := by decide +kernel
theorem dX11_witnessLength_20 : decode cX11_witnessLength 20 = .ok (.iconst 1, 1) := by decide +kernel
theorem dX11_witnessLength_21 : decode cX11_witnessLength 21 = .ok (.if_icmp .ne 17, 3) := by decide +kernel
theorem dX11_witnessLength_24 : decode cX11_witnessLength 24 = .ok (.aload_n 0, 1) := by decide +kernel
theorem dX11_witnessLength_25 : decode cX11_witnessLength 25 = .ok (.getfield 72, 3) := by decide +kernel
theorem dX11_witnessLength_28 : decode cX11_witnessLength 28 = .ok (.aload_n 0, 1) := by decide +kernel
theorem dX11_witnessLength_29 : decode cX11_witnessLength 29 = .ok (.getfield 47, 3) := by decide +kernel
theorem dX11_witnessLength_32 : decode cX11_witnessLength 32 = .ok (.invokevirtual 222, 3) := by decide +kernel
theorem dX11_witnessLength_35 : decode cX11_witnessLength 35 = .ok (.ifCond .ne 6, 3) := by decide +kernel
theorem dX11_witnessLength_38 : decode cX11_witnessLength 38 = .ok (.bipush (-9), 2) := by decide +kernel
theorem dX11_witnessLength_40 : decode cX11_witnessLength 40 = .ok (.ireturn, 1) := by decide +kernel
theorem dX11_witnessLength_41 : decode cX11_witnessLength 41 = .ok (.aload_n 0, 1) := by decide +kernel
theorem dX11_witnessLength_42 : decode cX11_witnessLength 42 = .ok (.getfield 47, 3) := by decide +kernel
theorem dX11_witnessLength_45 : decode cX11_witnessLength 45 = .ok (.iload_n 1, 1) := by decide +kernel
theorem dX11_witnessLength_46 : decode cX11_witnessLength 46 = .ok (.invokestatic 135, 3) := by decide +kernel
theorem dX11_witnessLength_49 : decode cX11_witnessLength 49 = .ok (.invokevirtual 226, 3) := by decide +kernel
theorem dX11_witnessLength_52 : decode cX11_witnessLength 52 = .ok (.ireturn, 1) := by decide +kernel
theorem dX11_witnessLetter_0 : decode cX11_witnessLetter 0 = .ok (.iload_n 1, 1) := by decide +kernel
theorem dX11_witnessLetter_1 : decode cX11_witnessLetter 1 = .ok (.invokestatic 132, 3) := by decide +kernel
theorem dX11_witnessLetter_4 : decode cX11_witnessLetter 4 = .ok (.ifCond .ne 5, 3) := by decide +kernel
theorem dX11_witnessLetter_7 : decode cX11_witnessLetter 7 = .ok (.iconst (-1), 1) := by decide +kernel
theorem dX11_witnessLetter_8 : decode cX11_witnessLetter 8 = .ok (.ireturn, 1) := by decide +kernel
theorem dX11_witnessLetter_9 : decode cX11_witnessLetter 9 = .ok (.aload_n 0, 1) := by decide +kernel
theorem dX11_witnessLetter_10 : decode cX11_witnessLetter 10 = .ok (.getfield 72, 3) := by decide +kernel
theorem dX11_witnessLetter_13 : decode cX11_witnessLetter 13 = .ok (.aload_n 0, 1) := by decide +kernel
theorem dX11_witnessLetter_14 : decode cX11_witnessLetter 14 = .ok (.getfield 19, 3) := by decide +kernel
theorem dX11_witnessLetter_17 : decode cX11_witnessLetter 17 = .ok (.invokevirtual 211, 3) := by decide +kernel
theorem dX11_witnessLetter_20 : decode cX11_witnessLetter 20 = .ok (.iconst 1, 1) := by decide +kernel
theorem dX11_witnessLetter_21 : decode cX11_witnessLetter 21 = .ok (.if_icmp .ne 17, 3) := by decide +kernel
theorem dX11_witnessLetter_24 : decode cX11_witnessLetter 24 = .ok (.aload_n 0, 1) := by decide +kernel
theorem dX11_witnessLetter_25 : decode cX11_witnessLetter 25 = .ok (.getfield 72, 3) := by decide +kernel
theorem dX11_witnessLetter_28 : decode cX11_witnessLetter 28 = .ok (.aload_n 0, 1) := by decide +kernel
theorem dX11_witnessLetter_29 : decode cX11_witnessLetter 29 = .ok (.getfield 47, 3) := by decide +kernel
theorem dX11_witnessLetter_32 : decode cX11_witnessLetter 32 = .ok (.invokevirtual 222, 3) := by decide +kernel
theorem dX11_witnessLetter_35 : decode cX11_witnessLetter 35 = .ok (.ifCond .ne 6, 3) := by decide +kernel
theorem dX11_witnessLetter_38 : decode cX11_witnessLetter 38 = .ok (.bipush (-9), 2) := by decide +kernel
theorem dX11_witnessLetter_40 : decode cX11_witnessLetter 40 = .ok (.ireturn, 1) := by decide +kernel
theorem dX11_witnessLetter_41 : decode cX11_witnessLetter 41 = .ok (.iload_n 1, 1) := by decide +kernel
theorem dX11_witnessLetter_42 : decode cX11_witnessLetter 42 = .ok (.invokestatic 135, 3) := by decide +kernel
theorem dX11_witnessLetter_45 : decode cX11_witnessLetter 45 = .ok (.istore_n 3, 1) := by decide +kernel
theorem dX11_witnessLetter_46 : decode cX11_witnessLetter 46 = .ok (.iload_n 2, 1) := by decide +kernel
theorem dX11_witnessLetter_47 : decode cX11_witnessLetter 47 = .ok (.ifCond .lt 15, 3) := by decide +kernel
theorem dX11_witnessLetter_50 : decode cX11_witnessLetter 50 = .ok (.iload_n 2, 1) := by decide +kernel
theorem dX11_witnessLetter_51 : decode cX11_witnessLetter 51 = .ok (.aload_n 0, 1) := by decide +kernel
theorem dX11_witnessLetter_52 : decode cX11_witnessLetter 52 = .ok (.getfield 47, 3) := by decide +kernel
theorem dX11_witnessLetter_55 : decode cX11_witnessLetter 55 = .ok (.iload_n 3, 1) := by decide +kernel
theorem dX11_witnessLetter_56 : decode cX11_witnessLetter 56 = .ok (.invokevirtual 226, 3) := by decide +kernel
theorem dX11_witnessLetter_59 : decode cX11_witnessLetter 59 = .ok (.if_icmp .lt 8, 3) := by decide +kernel
theorem dX11_witnessLetter_62 : decode cX11_witnessLetter 62 = .ok (.bipush (-9), 2) := by decide +kernel
theorem dX11_witnessLetter_64 : decode cX11_witnessLetter 64 = .ok (.goto 12, 3) := by decide +kernel
theorem dX11_witnessLetter_67 : decode cX11_witnessLetter 67 = .ok (.aload_n 0, 1) := by decide +kernel
theorem dX11_witnessLetter_68 : decode cX11_witnessLetter 68 = .ok (.getfield 47, 3) := by decide +kernel
theorem dX11_witnessLetter_71 : decode cX11_witnessLetter 71 = .ok (.iload_n 3, 1) := by decide +kernel
theorem dX11_witnessLetter_72 : decode cX11_witnessLetter 72 = .ok (.iload_n 2, 1) := by decide +kernel
theorem dX11_witnessLetter_73 : decode cX11_witnessLetter 73 = .ok (.invokevirtual 229, 3) := by decide +kernel
theorem dX11_witnessLetter_76 : decode cX11_witnessLetter 76 = .ok (.ireturn, 1) := by decide +kernel
theorem dX11_runScript_0 : decode cX11_runScript 0 = .ok (.iload_n 1, 1) := by decide +kernel
theorem dX11_runScript_1 : decode cX11_runScript 1 = .ok (.iconst 1, 1) := by decide +kernel
theorem dX11_runScript_2 : decode cX11_runScript 2 = .ok (.if_icmp .lt 24, 3) := by decide +kernel
theorem dX11_runScript_5 : decode cX11_runScript 5 = .ok (.iload_n 1, 1) := by decide +kernel
theorem dX11_runScript_6 : decode cX11_runScript 6 = .ok (.iconst 4, 1) := by decide +kernel
theorem dX11_runScript_7 : decode cX11_runScript 7 = .ok (.if_icmp .gt 19, 3) := by decide +kernel
theorem dX11_runScript_10 : decode cX11_runScript 10 = .ok (.lload_n 2, 1) := by decide +kernel
theorem dX11_runScript_11 : decode cX11_runScript 11 = .ok (.lconst 0, 1) := by decide +kernel
theorem dX11_runScript_12 : decode cX11_runScript 12 = .ok (.lcmp, 1) := by decide +kernel
theorem dX11_runScript_13 : decode cX11_runScript 13 = .ok (.ifCond .lt 13, 3) := by decide +kernel
theorem dX11_runScript_16 : decode cX11_runScript 16 = .ok (.iload_n 1, 1) := by decide +kernel
theorem dX11_runScript_17 : decode cX11_runScript 17 = .ok (.lload_n 2, 1) := by decide +kernel
theorem dX11_runScript_18 : decode cX11_runScript 18 = .ok (.invokestatic 232, 3) := by decide +kernel
theorem dX11_runScript_21 : decode cX11_runScript 21 = .ok (.lconst 0, 1) := by decide +kernel
theorem dX11_runScript_22 : decode cX11_runScript 22 = .ok (.lcmp, 1) := by decide +kernel
theorem dX11_runScript_23 : decode cX11_runScript 23 = .ok (.ifCond .eq 6, 3) := by decide +kernel
theorem dX11_runScript_26 : decode cX11_runScript 26 = .ok (.bipush (-2), 2) := by decide +kernel
theorem dX11_runScript_28 : decode cX11_runScript 28 = .ok (.ireturn, 1) := by decide +kernel
theorem dX11_runScript_29 : decode cX11_runScript 29 = .ok (.aload_n 0, 1) := by decide +kernel
theorem dX11_runScript_30 : decode cX11_runScript 30 = .ok (.getfield 81, 3) := by decide +kernel
theorem dX11_runScript_33 : decode cX11_runScript 33 = .ok (.aload_n 0, 1) := by decide +kernel
theorem dX11_runScript_34 : decode cX11_runScript 34 = .ok (.getfield 19, 3) := by decide +kernel
theorem dX11_runScript_37 : decode cX11_runScript 37 = .ok (.invokevirtual 236, 3) := by decide +kernel
theorem dX11_runScript_40 : decode cX11_runScript 40 = .ok (.iconst 0, 1) := by decide +kernel
theorem dX11_runScript_41 : decode cX11_runScript 41 = .ok (.istore 4, 2) := by decide +kernel
theorem dX11_runScript_43 : decode cX11_runScript 43 = .ok (.iload 4, 2) := by decide +kernel
theorem dX11_runScript_45 : decode cX11_runScript 45 = .ok (.iload_n 1, 1) := by decide +kernel
theorem dX11_runScript_46 : decode cX11_runScript 46 = .ok (.if_icmp .ge 37, 3) := by decide +kernel
theorem dX11_runScript_49 : decode cX11_runScript 49 = .ok (.aload_n 0, 1) := by decide +kernel
theorem dX11_runScript_50 : decode cX11_runScript 50 = .ok (.getfield 81, 3) := by decide +kernel
theorem dX11_runScript_53 : decode cX11_runScript 53 = .ok (.iload_n 1, 1) := by decide +kernel
theorem dX11_runScript_54 : decode cX11_runScript 54 = .ok (.iconst 1, 1) := by decide +kernel
theorem dX11_runScript_55 : decode cX11_runScript 55 = .ok (.isub, 1) := by decide +kernel
theorem dX11_runScript_56 : decode cX11_runScript 56 = .ok (.iload 4, 2) := by decide +kernel
theorem dX11_runScript_58 : decode cX11_runScript 58 = .ok (.isub, 1) := by decide +kernel
theorem dX11_runScript_59 : decode cX11_runScript 59 = .ok (.lload_n 2, 1) := by decide +kernel
theorem dX11_runScript_60 : decode cX11_runScript 60 = .ok (.invokestatic 232, 3) := by decide +kernel
theorem dX11_runScript_63 : decode cX11_runScript 63 = .ok (.ldc2_w 239, 3) := by decide +kernel
theorem dX11_runScript_66 : decode cX11_runScript 66 = .ok (.lrem, 1) := by decide +kernel
theorem dX11_runScript_67 : decode cX11_runScript 67 = .ok (.l2i, 1) := by decide +kernel
theorem dX11_runScript_68 : decode cX11_runScript 68 = .ok (.invokevirtual 241, 3) := by decide +kernel
theorem dX11_runScript_71 : decode cX11_runScript 71 = .ok (.ifCond .ne 6, 3) := by decide +kernel
theorem dX11_runScript_74 : decode cX11_runScript 74 = .ok (.iload 4, 2) := by decide +kernel
theorem dX11_runScript_76 : decode cX11_runScript 76 = .ok (.ireturn, 1) := by decide +kernel
theorem dX11_runScript_77 : decode cX11_runScript 77 = .ok (.iinc 4 1, 3) := by decide +kernel
theorem dX11_runScript_80 : decode cX11_runScript 80 = .ok (.goto (-37), 3) := by decide +kernel
theorem dX11_runScript_83 : decode cX11_runScript 83 = .ok (.bipush (-9), 2) := by decide +kernel
theorem dX11_runScript_85 : decode cX11_runScript 85 = .ok (.ireturn, 1) := by decide +kernel
theorem dX11_randomChecks_0 : decode cX11_randomChecks 0 = .ok (.iload_n 3, 1) := by decide +kernel
theorem dX11_randomChecks_1 : decode cX11_randomChecks 1 = .ok (.iconst 1, 1) := by decide +kernel
theorem dX11_randomChecks_2 : decode cX11_randomChecks 2 = .ok (.if_icmp .lt 10, 3) := by decide +kernel
theorem dX11_randomChecks_5 : decode cX11_randomChecks 5 = .ok (.iload_n 3, 1) := by decide +kernel
theorem dX11_randomChecks_6 : decode cX11_randomChecks 6 = .ok (.sipush 200, 3) := by decide +kernel
theorem dX11_randomChecks_9 : decode cX11_randomChecks 9 = .ok (.if_icmp .le 6, 3) := by decide +kernel
theorem dX11_randomChecks_12 : decode cX11_randomChecks 12 = .ok (.bipush (-2), 2) := by decide +kernel
theorem dX11_randomChecks_14 : decode cX11_randomChecks 14 = .ok (.ireturn, 1) := by decide +kernel
theorem dX11_randomChecks_15 : decode cX11_randomChecks 15 = .ok (.lload_n 1, 1) := by decide +kernel
theorem dX11_randomChecks_16 : decode cX11_randomChecks 16 = .ok (.lstore 4, 2) := by decide +kernel
theorem dX11_randomChecks_18 : decode cX11_randomChecks 18 = .ok (.iconst 0, 1) := by decide +kernel
theorem dX11_randomChecks_19 : decode cX11_randomChecks 19 = .ok (.istore 6, 2) := by decide +kernel
theorem dX11_randomChecks_21 : decode cX11_randomChecks 21 = .ok (.iconst 0, 1) := by decide +kernel
theorem dX11_randomChecks_22 : decode cX11_randomChecks 22 = .ok (.istore 7, 2) := by decide +kernel
theorem dX11_randomChecks_24 : decode cX11_randomChecks 24 = .ok (.iload 7, 2) := by decide +kernel
theorem dX11_randomChecks_26 : decode cX11_randomChecks 26 = .ok (.iload_n 3, 1) := by decide +kernel
theorem dX11_randomChecks_27 : decode cX11_randomChecks 27 = .ok (.if_icmp .ge 70, 3) := by decide +kernel
theorem dX11_randomChecks_30 : decode cX11_randomChecks 30 = .ok (.lload 4, 2) := by decide +kernel
theorem dX11_randomChecks_32 : decode cX11_randomChecks 32 = .ok (.ldc2_w 244, 3) := by decide +kernel
theorem dX11_randomChecks_35 : decode cX11_randomChecks 35 = .ok (.lmul, 1) := by decide +kernel
theorem dX11_randomChecks_36 : decode cX11_randomChecks 36 = .ok (.ldc2_w 246, 3) := by decide +kernel
theorem dX11_randomChecks_39 : decode cX11_randomChecks 39 = .ok (.ladd, 1) := by decide +kernel
theorem dX11_randomChecks_40 : decode cX11_randomChecks 40 = .ok (.lstore 4, 2) := by decide +kernel
theorem dX11_randomChecks_42 : decode cX11_randomChecks 42 = .ok (.lload 4, 2) := by decide +kernel
theorem dX11_randomChecks_44 : decode cX11_randomChecks 44 = .ok (.bipush 33, 2) := by decide +kernel
theorem dX11_randomChecks_46 : decode cX11_randomChecks 46 = .ok (.lushr, 1) := by decide +kernel
theorem dX11_randomChecks_47 : decode cX11_randomChecks 47 = .ok (.l2i, 1) := by decide +kernel
theorem dX11_randomChecks_48 : decode cX11_randomChecks 48 = .ok (.istore 8, 2) := by decide +kernel
theorem dX11_randomChecks_50 : decode cX11_randomChecks 50 = .ok (.aload_n 0, 1) := by decide +kernel
theorem dX11_randomChecks_51 : decode cX11_randomChecks 51 = .ok (.iload 8, 2) := by decide +kernel
theorem dX11_randomChecks_53 : decode cX11_randomChecks 53 = .ok (.bipush 15, 2) := by decide +kernel
theorem dX11_randomChecks_55 : decode cX11_randomChecks 55 = .ok (.irem, 1) := by decide +kernel
theorem dX11_randomChecks_56 : decode cX11_randomChecks 56 = .ok (.iload 8, 2) := by decide +kernel
theorem dX11_randomChecks_58 : decode cX11_randomChecks 58 = .ok (.bipush 15, 2) := by decide +kernel
theorem dX11_randomChecks_60 : decode cX11_randomChecks 60 = .ok (.idiv, 1) := by decide +kernel
theorem dX11_randomChecks_61 : decode cX11_randomChecks 61 = .ok (.bipush 15, 2) := by decide +kernel
theorem dX11_randomChecks_63 : decode cX11_randomChecks 63 = .ok (.irem, 1) := by decide +kernel
theorem dX11_randomChecks_64 : decode cX11_randomChecks 64 = .ok (.iload 8, 2) := by decide +kernel
theorem dX11_randomChecks_66 : decode cX11_randomChecks 66 = .ok (.sipush 225, 3) := by decide +kernel
theorem dX11_randomChecks_69 : decode cX11_randomChecks 69 = .ok (.idiv, 1) := by decide +kernel
theorem dX11_randomChecks_70 : decode cX11_randomChecks 70 = .ok (.bipush 15, 2) := by decide +kernel
