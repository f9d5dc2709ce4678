theorem dS_init_0 : decode cS_init 0 = .ok (.aload_n 0, 1) := by decide +kernel
theorem dS_init_1 : decode cS_init 1 = .ok (.invokespecial 3, 3) := by decide +kernel
theorem dS_init_4 : decode cS_init 4 = .ok (.aload_n 0, 1) := by decide +kernel
theorem dS_init_5 : decode cS_init 5 = .ok (.new 9, 3) := by decide +kernel
theorem dS_init_8 : decode cS_init 8 = .ok (.dup, 1) := by decide +kernel
theorem dS_init_9 : decode cS_init 9 = .ok (.invokespecial 11, 3) := by decide +kernel
theorem dS_init_12 : decode cS_init 12 = .ok (.putfield 12, 3) := by decide +kernel
theorem dS_init_15 : decode cS_init 15 = .ok (.aload_n 0, 1) := by decide +kernel
theorem dS_init_16 : decode cS_init 16 = .ok (.new 16, 3) := by decide +kernel
theorem dS_init_19 : decode cS_init 19 = .ok (.dup, 1) := by decide +kernel
theorem dS_init_20 : decode cS_init 20 = .ok (.invokespecial 18, 3) := by decide +kernel
theorem dS_init_23 : decode cS_init 23 = .ok (.putfield 19, 3) := by decide +kernel
theorem dS_init_26 : decode cS_init 26 = .ok (.aload_n 0, 1) := by decide +kernel
theorem dS_init_27 : decode cS_init 27 = .ok (.iconst 2, 1) := by decide +kernel
theorem dS_init_28 : decode cS_init 28 = .ok (.anewarray 16, 3) := by decide +kernel
theorem dS_init_31 : decode cS_init 31 = .ok (.dup, 1) := by decide +kernel
theorem dS_init_32 : decode cS_init 32 = .ok (.iconst 0, 1) := by decide +kernel
theorem dS_init_33 : decode cS_init 33 = .ok (.new 16, 3) := by decide +kernel
theorem dS_init_36 : decode cS_init 36 = .ok (.dup, 1) := by decide +kernel
theorem dS_init_37 : decode cS_init 37 = .ok (.invokespecial 18, 3) := by decide +kernel
theorem dS_init_40 : decode cS_init 40 = .ok (.aastore, 1) := by decide +kernel
theorem dS_init_41 : decode cS_init 41 = .ok (.dup, 1) := by decide +kernel
theorem dS_init_42 : decode cS_init 42 = .ok (.iconst 1, 1) := by decide +kernel
theorem dS_init_43 : decode cS_init 43 = .ok (.new 16, 3) := by decide +kernel
theorem dS_init_46 : decode cS_init 46 = .ok (.dup, 1) := by decide +kernel
theorem dS_init_47 : decode cS_init 47 = .ok (.invokespecial 18, 3) := by decide +kernel
theorem dS_init_50 : decode cS_init 50 = .ok (.aastore, 1) := by decide +kernel
theorem dS_init_51 : decode cS_init 51 = .ok (.putfield 23, 3) := by decide +kernel
theorem dS_init_54 : decode cS_init 54 = .ok (.aload_n 0, 1) := by decide +kernel
theorem dS_init_55 : decode cS_init 55 = .ok (.iconst 2, 1) := by decide +kernel
theorem dS_init_56 : decode cS_init 56 = .ok (.newarray .boolean, 2) := by decide +kernel
theorem dS_init_58 : decode cS_init 58 = .ok (.putfield 27, 3) := by decide +kernel
theorem dS_init_61 : decode cS_init 61 = .ok (.aload_n 0, 1) := by decide +kernel
theorem dS_init_62 : decode cS_init 62 = .ok (.bipush 31, 2) := by decide +kernel
theorem dS_init_64 : decode cS_init 64 = .ok (.newarray .int, 2) := by decide +kernel
theorem dS_init_66 : decode cS_init 66 = .ok (.putfield 31, 3) := by decide +kernel
theorem dS_init_69 : decode cS_init 69 = .ok (.aload_n 0, 1) := by decide +kernel
theorem dS_init_70 : decode cS_init 70 = .ok (.iconst (-1), 1) := by decide +kernel
theorem dS_init_71 : decode cS_init 71 = .ok (.putfield 35, 3) := by decide +kernel
theorem dS_init_74 : decode cS_init 74 = .ok (.return_, 1) := by decide +kernel
theorem dM_init_0 : decode cM_init 0 = .ok (.aload_n 0, 1) := by decide +kernel
theorem dM_init_1 : decode cM_init 1 = .ok (.invokespecial 3, 3) := by decide +kernel
theorem dM_init_4 : decode cM_init 4 = .ok (.aload_n 0, 1) := by decide +kernel
theorem dM_init_5 : decode cM_init 5 = .ok (.bipush 112, 2) := by decide +kernel
theorem dM_init_7 : decode cM_init 7 = .ok (.newarray .long, 2) := by decide +kernel
theorem dM_init_9 : decode cM_init 9 = .ok (.putfield 9, 3) := by decide +kernel
theorem dM_init_12 : decode cM_init 12 = .ok (.aload_n 0, 1) := by decide +kernel
theorem dM_init_13 : decode cM_init 13 = .ok (.bipush 112, 2) := by decide +kernel
theorem dM_init_15 : decode cM_init 15 = .ok (.newarray .long, 2) := by decide +kernel
theorem dM_init_17 : decode cM_init 17 = .ok (.putfield 15, 3) := by decide +kernel
theorem dM_init_20 : decode cM_init 20 = .ok (.aload_n 0, 1) := by decide +kernel
theorem dM_init_21 : decode cM_init 21 = .ok (.bipush 112, 2) := by decide +kernel
theorem dM_init_23 : decode cM_init 23 = .ok (.newarray .long, 2) := by decide +kernel
theorem dM_init_25 : decode cM_init 25 = .ok (.putfield 18, 3) := by decide +kernel
theorem dM_init_28 : decode cM_init 28 = .ok (.aload_n 0, 1) := by decide +kernel
theorem dM_init_29 : decode cM_init 29 = .ok (.bipush 112, 2) := by decide +kernel
theorem dM_init_31 : decode cM_init 31 = .ok (.newarray .int, 2) := by decide +kernel
theorem dM_init_33 : decode cM_init 33 = .ok (.putfield 21, 3) := by decide +kernel
theorem dM_init_36 : decode cM_init 36 = .ok (.aload_n 0, 1) := by decide +kernel
theorem dM_init_37 : decode cM_init 37 = .ok (.bipush 14, 2) := by decide +kernel
theorem dM_init_39 : decode cM_init 39 = .ok (.newarray .boolean, 2) := by decide +kernel
theorem dM_init_41 : decode cM_init 41 = .ok (.putfield 25, 3) := by decide +kernel
theorem dM_init_44 : decode cM_init 44 = .ok (.aload_n 0, 1) := by decide +kernel
theorem dM_init_45 : decode cM_init 45 = .ok (.bipush 14, 2) := by decide +kernel
theorem dM_init_47 : decode cM_init 47 = .ok (.newarray .boolean, 2) := by decide +kernel
theorem dM_init_49 : decode cM_init 49 = .ok (.putfield 29, 3) := by decide +kernel
theorem dM_init_52 : decode cM_init 52 = .ok (.return_, 1) := by decide +kernel
theorem dI_init_0 : decode cI_init 0 = .ok (.aload_n 0, 1) := by decide +kernel
theorem dI_init_1 : decode cI_init 1 = .ok (.invokespecial 3, 3) := by decide +kernel
theorem dI_init_4 : decode cI_init 4 = .ok (.aload_n 0, 1) := by decide +kernel
theorem dI_init_5 : decode cI_init 5 = .ok (.bipush 31, 2) := by decide +kernel
theorem dI_init_7 : decode cI_init 7 = .ok (.newarray .long, 2) := by decide +kernel
theorem dI_init_9 : decode cI_init 9 = .ok (.putfield 9, 3) := by decide +kernel
theorem dI_init_12 : decode cI_init 12 = .ok (.return_, 1) := by decide +kernel
theorem dS_stop_0 : decode cS_stop 0 = .ok (.iload_n 1, 1) := by decide +kernel
theorem dS_stop_1 : decode cS_stop 1 = .ok (.ifCond .ge 5, 3) := by decide +kernel
theorem dS_stop_4 : decode cS_stop 4 = .ok (.iconst 0, 1) := by decide +kernel
theorem dS_stop_5 : decode cS_stop 5 = .ok (.ireturn, 1) := by decide +kernel
theorem dS_stop_6 : decode cS_stop 6 = .ok (.aload_n 0, 1) := by decide +kernel
theorem dS_stop_7 : decode cS_stop 7 = .ok (.iload_n 1, 1) := by decide +kernel
theorem dS_stop_8 : decode cS_stop 8 = .ok (.putfield 35, 3) := by decide +kernel
theorem dS_stop_11 : decode cS_stop 11 = .ok (.aload_n 0, 1) := by decide +kernel
theorem dS_stop_12 : decode cS_stop 12 = .ok (.iload_n 2, 1) := by decide +kernel
theorem dS_stop_13 : decode cS_stop 13 = .ok (.putfield 145, 3) := by decide +kernel
theorem dS_stop_16 : decode cS_stop 16 = .ok (.iconst 1, 1) := by decide +kernel
theorem dS_stop_17 : decode cS_stop 17 = .ok (.ireturn, 1) := by decide +kernel
theorem dS_loose_0 : decode cS_loose 0 = .ok (.iload_n 1, 1) := by decide +kernel
theorem dS_loose_1 : decode cS_loose 1 = .ok (.i2l, 1) := by decide +kernel
theorem dS_loose_2 : decode cS_loose 2 = .ok (.invokestatic 163, 3) := by decide +kernel
theorem dS_loose_5 : decode cS_loose 5 = .ok (.ifCond .eq 14, 3) := by decide +kernel
theorem dS_loose_8 : decode cS_loose 8 = .ok (.aload_n 0, 1) := by decide +kernel
theorem dS_loose_9 : decode cS_loose 9 = .ok (.getfield 12, 3) := by decide +kernel
theorem dS_loose_12 : decode cS_loose 12 = .ok (.iload_n 1, 1) := by decide +kernel
theorem dS_loose_13 : decode cS_loose 13 = .ok (.invokevirtual 171, 3) := by decide +kernel
theorem dS_loose_16 : decode cS_loose 16 = .ok (.goto 4, 3) := by decide +kernel
theorem dS_loose_19 : decode cS_loose 19 = .ok (.iconst (-1), 1) := by decide +kernel
theorem dS_loose_20 : decode cS_loose 20 = .ok (.ireturn, 1) := by decide +kernel
theorem dS_isWord_0 : decode cS_isWord 0 = .ok (.lload_n 0, 1) := by decide +kernel
theorem dS_isWord_1 : decode cS_isWord 1 = .ok (.bipush 111, 2) := by decide +kernel
theorem dS_isWord_3 : decode cS_isWord 3 = .ok (.invokestatic 187, 3) := by decide +kernel
theorem dS_isWord_6 : decode cS_isWord 6 = .ok (.ireturn, 1) := by decide +kernel
theorem dS_isWithin_0 : decode cS_isWithin 0 = .ok (.lload_n 0, 1) := by decide +kernel
theorem dS_isWithin_1 : decode cS_isWithin 1 = .ok (.lconst 0, 1) := by decide +kernel
theorem dS_isWithin_2 : decode cS_isWithin 2 = .ok (.lcmp, 1) := by decide +kernel
theorem dS_isWithin_3 : decode cS_isWithin 3 = .ok (.ifCond .lt 14, 3) := by decide +kernel
theorem dS_isWithin_6 : decode cS_isWithin 6 = .ok (.lload_n 0, 1) := by decide +kernel
theorem dS_isWithin_7 : decode cS_isWithin 7 = .ok (.iload_n 2, 1) := by decide +kernel
theorem dS_isWithin_8 : decode cS_isWithin 8 = .ok (.i2l, 1) := by decide +kernel
theorem dS_isWithin_9 : decode cS_isWithin 9 = .ok (.lcmp, 1) := by decide +kernel
theorem dS_isWithin_10 : decode cS_isWithin 10 = .ok (.ifCond .gt 7, 3) := by decide +kernel
theorem dS_isWithin_13 : decode cS_isWithin 13 = .ok (.iconst 1, 1) := by decide +kernel
theorem dS_isWithin_14 : decode cS_isWithin 14 = .ok (.goto 4, 3) := by decide +kernel
theorem dS_isWithin_17 : decode cS_isWithin 17 = .ok (.iconst 0, 1) := by decide +kernel
theorem dS_isWithin_18 : decode cS_isWithin 18 = .ok (.ireturn, 1) := by decide +kernel
theorem dM_looseCountAt_0 : decode cM_looseCountAt 0 = .ok (.iload_n 1, 1) := by decide +kernel
theorem dM_looseCountAt_1 : decode cM_looseCountAt 1 = .ok (.i2l, 1) := by decide +kernel
theorem dM_looseCountAt_2 : decode cM_looseCountAt 2 = .ok (.invokestatic 32, 3) := by decide +kernel
theorem dM_looseCountAt_5 : decode cM_looseCountAt 5 = .ok (.ifCond .eq 12, 3) := by decide +kernel
theorem dM_looseCountAt_8 : decode cM_looseCountAt 8 = .ok (.aload_n 0, 1) := by decide +kernel
theorem dM_looseCountAt_9 : decode cM_looseCountAt 9 = .ok (.getfield 21, 3) := by decide +kernel
theorem dM_looseCountAt_12 : decode cM_looseCountAt 12 = .ok (.iload_n 1, 1) := by decide +kernel
theorem dM_looseCountAt_13 : decode cM_looseCountAt 13 = .ok (.iaload, 1) := by decide +kernel
theorem dM_looseCountAt_14 : decode cM_looseCountAt 14 = .ok (.goto 4, 3) := by decide +kernel
theorem dM_looseCountAt_17 : decode cM_looseCountAt 17 = .ok (.iconst 0, 1) := by decide +kernel
theorem dM_looseCountAt_18 : decode cM_looseCountAt 18 = .ok (.ireturn, 1) := by decide +kernel
theorem dS_look_0 : decode cS_look 0 = .ok (.iload_n 1, 1) := by decide +kernel
theorem dS_look_1 : decode cS_look 1 = .ok (.tableswitch 152 0 8 #[51, 64, 77, 96, 115, 123, 131, 139, 147], 51) := by decide +kernel
theorem dS_look_52 : decode cS_look 52 = .ok (.aload_n 0, 1) := by decide +kernel
theorem dS_look_53 : decode cS_look 53 = .ok (.getfield 148, 3) := by decide +kernel
theorem dS_look_56 : decode cS_look 56 = .ok (.ifCond .eq 7, 3) := by decide +kernel
theorem dS_look_59 : decode cS_look 59 = .ok (.iconst 1, 1) := by decide +kernel
theorem dS_look_60 : decode cS_look 60 = .ok (.goto 4, 3) := by decide +kernel
theorem dS_look_63 : decode cS_look 63 = .ok (.iconst 0, 1) := by decide +kernel
theorem dS_look_64 : decode cS_look 64 = .ok (.ireturn, 1) := by decide +kernel
theorem dS_look_65 : decode cS_look 65 = .ok (.aload_n 0, 1) := by decide +kernel
theorem dS_look_66 : decode cS_look 66 = .ok (.getfield 42, 3) := by decide +kernel
theorem dS_look_69 : decode cS_look 69 = .ok (.ifCond .eq 7, 3) := by decide +kernel
theorem dS_look_72 : decode cS_look 72 = .ok (.iconst 1, 1) := by decide +kernel
theorem dS_look_73 : decode cS_look 73 = .ok (.goto 4, 3) := by decide +kernel
theorem dS_look_76 : decode cS_look 76 = .ok (.iconst 0, 1) := by decide +kernel
theorem dS_look_77 : decode cS_look 77 = .ok (.ireturn, 1) := by decide +kernel
theorem dS_look_78 : decode cS_look 78 = .ok (.aload_n 0, 1) := by decide +kernel
theorem dS_look_79 : decode cS_look 79 = .ok (.getfield 148, 3) := by decide +kernel
theorem dS_look_82 : decode cS_look 82 = .ok (.ifCond .eq 7, 3) := by decide +kernel
theorem dS_look_85 : decode cS_look 85 = .ok (.iconst (-1), 1) := by decide +kernel
theorem dS_look_86 : decode cS_look 86 = .ok (.goto 10, 3) := by decide +kernel
theorem dS_look_89 : decode cS_look 89 = .ok (.aload_n 0, 1) := by decide +kernel
theorem dS_look_90 : decode cS_look 90 = .ok (.getfield 19, 3) := by decide +kernel
theorem dS_look_93 : decode cS_look 93 = .ok (.invokevirtual 79, 3) := by decide +kernel
theorem dS_look_96 : decode cS_look 96 = .ok (.ireturn, 1) := by decide +kernel
theorem dS_look_97 : decode cS_look 97 = .ok (.aload_n 0, 1) := by decide +kernel
theorem dS_look_98 : decode cS_look 98 = .ok (.getfield 148, 3) := by decide +kernel
theorem dS_look_101 : decode cS_look 101 = .ok (.ifCond .eq 7, 3) := by decide +kernel
theorem dS_look_104 : decode cS_look 104 = .ok (.iconst (-1), 1) := by decide +kernel
theorem dS_look_105 : decode cS_look 105 = .ok (.goto 10, 3) := by decide +kernel
theorem dS_look_108 : decode cS_look 108 = .ok (.aload_n 0, 1) := by decide +kernel
theorem dS_look_109 : decode cS_look 109 = .ok (.getfield 19, 3) := by decide +kernel
theorem dS_look_112 : decode cS_look 112 = .ok (.invokevirtual 98, 3) := by decide +kernel
theorem dS_look_115 : decode cS_look 115 = .ok (.ireturn, 1) := by decide +kernel
theorem dS_look_116 : decode cS_look 116 = .ok (.aload_n 0, 1) := by decide +kernel
theorem dS_look_117 : decode cS_look 117 = .ok (.getfield 12, 3) := by decide +kernel
theorem dS_look_120 : decode cS_look 120 = .ok (.getfield 175, 3) := by decide +kernel
theorem dS_look_123 : decode cS_look 123 = .ok (.ireturn, 1) := by decide +kernel
theorem dS_look_124 : decode cS_look 124 = .ok (.aload_n 0, 1) := by decide +kernel
theorem dS_look_125 : decode cS_look 125 = .ok (.getfield 12, 3) := by decide +kernel
theorem dS_look_128 : decode cS_look 128 = .ok (.getfield 178, 3) := by decide +kernel
theorem dS_look_131 : decode cS_look 131 = .ok (.ireturn, 1) := by decide +kernel
theorem dS_look_132 : decode cS_look 132 = .ok (.aload_n 0, 1) := by decide +kernel
theorem dS_look_133 : decode cS_look 133 = .ok (.getfield 12, 3) := by decide +kernel
theorem dS_look_136 : decode cS_look 136 = .ok (.getfield 181, 3) := by decide +kernel
theorem dS_look_139 : decode cS_look 139 = .ok (.ireturn, 1) := by decide +kernel
theorem dS_look_140 : decode cS_look 140 = .ok (.aload_n 0, 1) := by decide +kernel
theorem dS_look_141 : decode cS_look 141 = .ok (.getfield 12, 3) := by decide +kernel
theorem dS_look_144 : decode cS_look 144 = .ok (.getfield 184, 3) := by decide +kernel
theorem dS_look_147 : decode cS_look 147 = .ok (.ireturn, 1) := by decide +kernel
theorem dS_look_148 : decode cS_look 148 = .ok (.aload_n 0, 1) := by decide +kernel
theorem dS_look_149 : decode cS_look 149 = .ok (.getfield 35, 3) := by decide +kernel
theorem dS_look_152 : decode cS_look 152 = .ok (.ireturn, 1) := by decide +kernel
theorem dS_look_153 : decode cS_look 153 = .ok (.iconst (-1), 1) := by decide +kernel
theorem dS_look_154 : decode cS_look 154 = .ok (.ireturn, 1) := by decide +kernel
theorem dI_queueSize_0 : decode cI_queueSize 0 = .ok (.aload_n 0, 1) := by decide +kernel
theorem dI_queueSize_1 : decode cI_queueSize 1 = .ok (.getfield 9, 3) := by decide +kernel
theorem dI_queueSize_4 : decode cI_queueSize 4 = .ok (.iconst 5, 1) := by decide +kernel
theorem dI_queueSize_5 : decode cI_queueSize 5 = .ok (.laload, 1) := by decide +kernel
theorem dI_queueSize_6 : decode cI_queueSize 6 = .ok (.bipush 8, 2) := by decide +kernel
theorem dI_queueSize_8 : decode cI_queueSize 8 = .ok (.invokestatic 30, 3) := by decide +kernel
theorem dI_queueSize_11 : decode cI_queueSize 11 = .ok (.ireturn, 1) := by decide +kernel
theorem dS_bounded_0 : decode cS_bounded 0 = .ok (.lconst 0, 1) := by decide +kernel
theorem dS_bounded_1 : decode cS_bounded 1 = .ok (.iload_n 2, 1) := by decide +kernel
theorem dS_bounded_2 : decode cS_bounded 2 = .ok (.i2l, 1) := by decide +kernel
theorem dS_bounded_3 : decode cS_bounded 3 = .ok (.lload_n 0, 1) := by decide +kernel
theorem dS_bounded_4 : decode cS_bounded 4 = .ok (.invokestatic 201, 3) := by decide +kernel
theorem dS_bounded_7 : decode cS_bounded 7 = .ok (.invokestatic 207, 3) := by decide +kernel
theorem dS_bounded_10 : decode cS_bounded 10 = .ok (.l2i, 1) := by decide +kernel
theorem dS_bounded_11 : decode cS_bounded 11 = .ok (.ireturn, 1) := by decide +kernel
theorem dI_pairs_0 : decode cI_pairs 0 = .ok (.aload_n 0, 1) := by decide +kernel
theorem dI_pairs_1 : decode cI_pairs 1 = .ok (.getfield 9, 3) := by decide +kernel
theorem dI_pairs_4 : decode cI_pairs 4 = .ok (.bipush 14, 2) := by decide +kernel
theorem dI_pairs_6 : decode cI_pairs 6 = .ok (.laload, 1) := by decide +kernel
theorem dI_pairs_7 : decode cI_pairs 7 = .ok (.bipush 8, 2) := by decide +kernel
theorem dI_pairs_9 : decode cI_pairs 9 = .ok (.invokestatic 30, 3) := by decide +kernel
theorem dI_pairs_12 : decode cI_pairs 12 = .ok (.ireturn, 1) := by decide +kernel
theorem dS_audit_0 : decode cS_audit 0 = .ok (.aload_n 0, 1) := by decide +kernel
theorem dS_audit_1 : decode cS_audit 1 = .ok (.getfield 12, 3) := by decide +kernel
theorem dS_audit_4 : decode cS_audit 4 = .ok (.iconst 4, 1) := by decide +kernel
theorem dS_audit_5 : decode cS_audit 5 = .ok (.invokevirtual 153, 3) := by decide +kernel
theorem dS_audit_8 : decode cS_audit 8 = .ok (.bipush 7, 2) := by decide +kernel
theorem dS_audit_10 : decode cS_audit 10 = .ok (.invokestatic 187, 3) := by decide +kernel
theorem dS_audit_13 : decode cS_audit 13 = .ok (.ifCond .eq 19, 3) := by decide +kernel
theorem dS_audit_16 : decode cS_audit 16 = .ok (.aload_n 0, 1) := by decide +kernel
theorem dS_audit_17 : decode cS_audit 17 = .ok (.getfield 12, 3) := by decide +kernel
theorem dS_audit_20 : decode cS_audit 20 = .ok (.iconst 5, 1) := by decide +kernel
theorem dS_audit_21 : decode cS_audit 21 = .ok (.invokevirtual 153, 3) := by decide +kernel
theorem dS_audit_24 : decode cS_audit 24 = .ok (.bipush 8, 2) := by decide +kernel
theorem dS_audit_26 : decode cS_audit 26 = .ok (.invokestatic 187, 3) := by decide +kernel
theorem dS_audit_29 : decode cS_audit 29 = .ok (.ifCond .ne 5, 3) := by decide +kernel
theorem dS_audit_32 : decode cS_audit 32 = .ok (.iconst 1, 1) := by decide +kernel
theorem dS_audit_33 : decode cS_audit 33 = .ok (.ireturn, 1) := by decide +kernel
theorem dS_audit_34 : decode cS_audit 34 = .ok (.aload_n 0, 1) := by decide +kernel
theorem dS_audit_35 : decode cS_audit 35 = .ok (.getfield 12, 3) := by decide +kernel
theorem dS_audit_38 : decode cS_audit 38 = .ok (.bipush 14, 2) := by decide +kernel
theorem dS_audit_40 : decode cS_audit 40 = .ok (.invokevirtual 153, 3) := by decide +kernel
theorem dS_audit_43 : decode cS_audit 43 = .ok (.bipush 8, 2) := by decide +kernel
theorem dS_audit_45 : decode cS_audit 45 = .ok (.invokestatic 187, 3) := by decide +kernel
theorem dS_audit_48 : decode cS_audit 48 = .ok (.ifCond .eq 10, 3) := by decide +kernel
theorem dS_audit_51 : decode cS_audit 51 = .ok (.aload_n 0, 1) := by decide +kernel
theorem dS_audit_52 : decode cS_audit 52 = .ok (.invokevirtual 191, 3) := by decide +kernel
theorem dS_audit_55 : decode cS_audit 55 = .ok (.ifCond .ne 5, 3) := by decide +kernel
theorem dS_audit_58 : decode cS_audit 58 = .ok (.iconst 2, 1) := by decide +kernel
theorem dS_audit_59 : decode cS_audit 59 = .ok (.ireturn, 1) := by decide +kernel
theorem dS_audit_60 : decode cS_audit 60 = .ok (.aload_n 0, 1) := by decide +kernel
theorem dS_audit_61 : decode cS_audit 61 = .ok (.getfield 12, 3) := by decide +kernel
theorem dS_audit_64 : decode cS_audit 64 = .ok (.bipush 40, 2) := by decide +kernel
theorem dS_audit_66 : decode cS_audit 66 = .ok (.invokevirtual 153, 3) := by decide +kernel
theorem dS_audit_69 : decode cS_audit 69 = .ok (.lconst 0, 1) := by decide +kernel
theorem dS_audit_70 : decode cS_audit 70 = .ok (.lcmp, 1) := by decide +kernel
theorem dS_audit_71 : decode cS_audit 71 = .ok (.ifCond .eq 7, 3) := by decide +kernel
theorem dS_audit_74 : decode cS_audit 74 = .ok (.iconst 3, 1) := by decide +kernel
theorem dS_audit_75 : decode cS_audit 75 = .ok (.goto 4, 3) := by decide +kernel
theorem dS_audit_78 : decode cS_audit 78 = .ok (.iconst 0, 1) := by decide +kernel
theorem dS_audit_79 : decode cS_audit 79 = .ok (.ireturn, 1) := by decide +kernel
theorem dM_valueAt_0 : decode cM_valueAt 0 = .ok (.iload_n 1, 1) := by decide +kernel
theorem dM_valueAt_1 : decode cM_valueAt 1 = .ok (.i2l, 1) := by decide +kernel
theorem dM_valueAt_2 : decode cM_valueAt 2 = .ok (.invokestatic 32, 3) := by decide +kernel
theorem dM_valueAt_5 : decode cM_valueAt 5 = .ok (.ifCond .eq 12, 3) := by decide +kernel
theorem dM_valueAt_8 : decode cM_valueAt 8 = .ok (.aload_n 0, 1) := by decide +kernel
theorem dM_valueAt_9 : decode cM_valueAt 9 = .ok (.getfield 9, 3) := by decide +kernel
theorem dM_valueAt_12 : decode cM_valueAt 12 = .ok (.iload_n 1, 1) := by decide +kernel
theorem dM_valueAt_13 : decode cM_valueAt 13 = .ok (.laload, 1) := by decide +kernel
theorem dM_valueAt_14 : decode cM_valueAt 14 = .ok (.goto 4, 3) := by decide +kernel
theorem dM_valueAt_17 : decode cM_valueAt 17 = .ok (.lconst 0, 1) := by decide +kernel
theorem dM_valueAt_18 : decode cM_valueAt 18 = .ok (.lreturn, 1) := by decide +kernel
theorem dS_keysRise_0 : decode cS_keysRise 0 = .ok (.aload_n 0, 1) := by decide +kernel
theorem dS_keysRise_1 : decode cS_keysRise 1 = .ok (.getfield 12, 3) := by decide +kernel
theorem dS_keysRise_4 : decode cS_keysRise 4 = .ok (.bipush 14, 2) := by decide +kernel
theorem dS_keysRise_6 : decode cS_keysRise 6 = .ok (.invokevirtual 153, 3) := by decide +kernel
theorem dS_keysRise_9 : decode cS_keysRise 9 = .ok (.bipush 8, 2) := by decide +kernel
theorem dS_keysRise_11 : decode cS_keysRise 11 = .ok (.invokestatic 156, 3) := by decide +kernel
theorem dS_keysRise_14 : decode cS_keysRise 14 = .ok (.istore_n 1, 1) := by decide +kernel
theorem dS_keysRise_15 : decode cS_keysRise 15 = .ok (.iconst 1, 1) := by decide +kernel
theorem dS_keysRise_16 : decode cS_keysRise 16 = .ok (.istore_n 2, 1) := by decide +kernel
theorem dS_keysRise_17 : decode cS_keysRise 17 = .ok (.iload_n 2, 1) := by decide +kernel
theorem dS_keysRise_18 : decode cS_keysRise 18 = .ok (.iload_n 1, 1) := by decide +kernel
theorem dS_keysRise_19 : decode cS_keysRise 19 = .ok (.if_icmp .ge 39, 3) := by decide +kernel
theorem dS_keysRise_22 : decode cS_keysRise 22 = .ok (.aload_n 0, 1) := by decide +kernel
theorem dS_keysRise_23 : decode cS_keysRise 23 = .ok (.getfield 12, 3) := by decide +kernel
theorem dS_keysRise_26 : decode cS_keysRise 26 = .ok (.bipush 15, 2) := by decide +kernel
theorem dS_keysRise_28 : decode cS_keysRise 28 = .ok (.iload_n 2, 1) := by decide +kernel
theorem dS_keysRise_29 : decode cS_keysRise 29 = .ok (.iadd, 1) := by decide +kernel
theorem dS_keysRise_30 : decode cS_keysRise 30 = .ok (.iconst 1, 1) := by decide +kernel
theorem dS_keysRise_31 : decode cS_keysRise 31 = .ok (.isub, 1) := by decide +kernel
theorem dS_keysRise_32 : decode cS_keysRise 32 = .ok (.invokevirtual 153, 3) := by decide +kernel
theorem dS_keysRise_35 : decode cS_keysRise 35 = .ok (.aload_n 0, 1) := by decide +kernel
theorem dS_keysRise_36 : decode cS_keysRise 36 = .ok (.getfield 12, 3) := by decide +kernel
theorem dS_keysRise_39 : decode cS_keysRise 39 = .ok (.bipush 15, 2) := by decide +kernel
theorem dS_keysRise_41 : decode cS_keysRise 41 = .ok (.iload_n 2, 1) := by decide +kernel
theorem dS_keysRise_42 : decode cS_keysRise 42 = .ok (.iadd, 1) := by decide +kernel
theorem dS_keysRise_43 : decode cS_keysRise 43 = .ok (.invokevirtual 153, 3) := by decide +kernel
theorem dS_keysRise_46 : decode cS_keysRise 46 = .ok (.lcmp, 1) := by decide +kernel
theorem dS_keysRise_47 : decode cS_keysRise 47 = .ok (.ifCond .lt 5, 3) := by decide +kernel
theorem dS_keysRise_50 : decode cS_keysRise 50 = .ok (.iconst 0, 1) := by decide +kernel
theorem dS_keysRise_51 : decode cS_keysRise 51 = .ok (.ireturn, 1) := by decide +kernel
theorem dS_keysRise_52 : decode cS_keysRise 52 = .ok (.iinc 2 1, 3) := by decide +kernel
theorem dS_keysRise_55 : decode cS_keysRise 55 = .ok (.goto (-38), 3) := by decide +kernel
theorem dS_keysRise_58 : decode cS_keysRise 58 = .ok (.iconst 1, 1) := by decide +kernel
theorem dS_keysRise_59 : decode cS_keysRise 59 = .ok (.ireturn, 1) := by decide +kernel
theorem dS_begin_0 : decode cS_begin 0 = .ok (.aload_n 0, 1) := by decide +kernel
theorem dS_begin_1 : decode cS_begin 1 = .ok (.invokevirtual 39, 3) := by decide +kernel
theorem dS_begin_4 : decode cS_begin 4 = .ok (.aload_n 0, 1) := by decide +kernel
theorem dS_begin_5 : decode cS_begin 5 = .ok (.getfield 42, 3) := by decide +kernel
theorem dS_begin_8 : decode cS_begin 8 = .ok (.ifCond .eq 13, 3) := by decide +kernel
theorem dS_begin_11 : decode cS_begin 11 = .ok (.new 46, 3) := by decide +kernel
theorem dS_begin_14 : decode cS_begin 14 = .ok (.dup, 1) := by decide +kernel
theorem dS_begin_15 : decode cS_begin 15 = .ok (.ldc 48, 2) := by decide +kernel
theorem dS_begin_17 : decode cS_begin 17 = .ok (.invokespecial 50, 3) := by decide +kernel
theorem dS_begin_20 : decode cS_begin 20 = .ok (.athrow, 1) := by decide +kernel
theorem dS_begin_21 : decode cS_begin 21 = .ok (.aload_n 0, 1) := by decide +kernel
theorem dS_begin_22 : decode cS_begin 22 = .ok (.iconst 1, 1) := by decide +kernel
theorem dS_begin_23 : decode cS_begin 23 = .ok (.putfield 42, 3) := by decide +kernel
theorem dS_begin_26 : decode cS_begin 26 = .ok (.return_, 1) := by decide +kernel
theorem dS_requireUp_0 : decode cS_requireUp 0 = .ok (.aload_n 0, 1) := by decide +kernel
theorem dS_requireUp_1 : decode cS_requireUp 1 = .ok (.getfield 148, 3) := by decide +kernel
theorem dS_requireUp_4 : decode cS_requireUp 4 = .ok (.ifCond .eq 13, 3) := by decide +kernel
theorem dS_requireUp_7 : decode cS_requireUp 7 = .ok (.new 46, 3) := by decide +kernel
theorem dS_requireUp_10 : decode cS_requireUp 10 = .ok (.dup, 1) := by decide +kernel
theorem dS_requireUp_11 : decode cS_requireUp 11 = .ok (.ldc 195, 2) := by decide +kernel
theorem dS_requireUp_13 : decode cS_requireUp 13 = .ok (.invokespecial 50, 3) := by decide +kernel
theorem dS_requireUp_16 : decode cS_requireUp 16 = .ok (.athrow, 1) := by decide +kernel
theorem dS_requireUp_17 : decode cS_requireUp 17 = .ok (.return_, 1) := by decide +kernel
theorem dS_commit_0 : decode cS_commit 0 = .ok (.aload_n 0, 1) := by decide +kernel
theorem dS_commit_1 : decode cS_commit 1 = .ok (.invokevirtual 53, 3) := by decide +kernel
theorem dS_commit_4 : decode cS_commit 4 = .ok (.aload_n 0, 1) := by decide +kernel
theorem dS_commit_5 : decode cS_commit 5 = .ok (.invokevirtual 56, 3) := by decide +kernel
theorem dS_commit_8 : decode cS_commit 8 = .ok (.istore_n 1, 1) := by decide +kernel
theorem dS_commit_9 : decode cS_commit 9 = .ok (.aload_n 0, 1) := by decide +kernel
theorem dS_commit_10 : decode cS_commit 10 = .ok (.iconst 0, 1) := by decide +kernel
theorem dS_commit_11 : decode cS_commit 11 = .ok (.putfield 42, 3) := by decide +kernel
theorem dS_commit_14 : decode cS_commit 14 = .ok (.iload_n 1, 1) := by decide +kernel
theorem dS_commit_15 : decode cS_commit 15 = .ok (.ireturn, 1) := by decide +kernel
theorem dS_requireTransaction_0 : decode cS_requireTransaction 0 = .ok (.aload_n 0, 1) := by decide +kernel
theorem dS_requireTransaction_1 : decode cS_requireTransaction 1 = .ok (.invokevirtual 39, 3) := by decide +kernel
theorem dS_requireTransaction_4 : decode cS_requireTransaction 4 = .ok (.aload_n 0, 1) := by decide +kernel
theorem dS_requireTransaction_5 : decode cS_requireTransaction 5 = .ok (.getfield 42, 3) := by decide +kernel
theorem dS_requireTransaction_8 : decode cS_requireTransaction 8 = .ok (.ifCond .ne 13, 3) := by decide +kernel
theorem dS_requireTransaction_11 : decode cS_requireTransaction 11 = .ok (.new 46, 3) := by decide +kernel
theorem dS_requireTransaction_14 : decode cS_requireTransaction 14 = .ok (.dup, 1) := by decide +kernel
theorem dS_requireTransaction_15 : decode cS_requireTransaction 15 = .ok (.ldc 197, 2) := by decide +kernel
theorem dS_requireTransaction_17 : decode cS_requireTransaction 17 = .ok (.invokespecial 50, 3) := by decide +kernel
theorem dS_requireTransaction_20 : decode cS_requireTransaction 20 = .ok (.athrow, 1) := by decide +kernel
theorem dS_requireTransaction_21 : decode cS_requireTransaction 21 = .ok (.return_, 1) := by decide +kernel
theorem dS_settle_0 : decode cS_settle 0 = .ok (.aload_n 0, 1) := by decide +kernel
theorem dS_settle_1 : decode cS_settle 1 = .ok (.invokevirtual 210, 3) := by decide +kernel
theorem dS_settle_4 : decode cS_settle 4 = .ok (.istore_n 1, 1) := by decide +kernel
theorem dS_settle_5 : decode cS_settle 5 = .ok (.iload_n 1, 1) := by decide +kernel
theorem dS_settle_6 : decode cS_settle 6 = .ok (.ifCond .ne 5, 3) := by decide +kernel
theorem dS_settle_9 : decode cS_settle 9 = .ok (.iconst 0, 1) := by decide +kernel
theorem dS_settle_10 : decode cS_settle 10 = .ok (.ireturn, 1) := by decide +kernel
theorem dS_settle_11 : decode cS_settle 11 = .ok (.iconst 0, 1) := by decide +kernel
theorem dS_settle_12 : decode cS_settle 12 = .ok (.istore_n 2, 1) := by decide +kernel
theorem dS_settle_13 : decode cS_settle 13 = .ok (.iload_n 2, 1) := by decide +kernel
theorem dS_settle_14 : decode cS_settle 14 = .ok (.iload_n 1, 1) := by decide +kernel
theorem dS_settle_15 : decode cS_settle 15 = .ok (.if_icmp .ge 51, 3) := by decide +kernel
theorem dS_settle_18 : decode cS_settle 18 = .ok (.aload_n 0, 1) := by decide +kernel
theorem dS_settle_19 : decode cS_settle 19 = .ok (.bipush 48, 2) := by decide +kernel
theorem dS_settle_21 : decode cS_settle 21 = .ok (.iconst 2, 1) := by decide +kernel
theorem dS_settle_22 : decode cS_settle 22 = .ok (.iload_n 2, 1) := by decide +kernel
theorem dS_settle_23 : decode cS_settle 23 = .ok (.imul, 1) := by decide +kernel
theorem dS_settle_24 : decode cS_settle 24 = .ok (.iadd, 1) := by decide +kernel
theorem dS_settle_25 : decode cS_settle 25 = .ok (.aload_n 0, 1) := by decide +kernel
theorem dS_settle_26 : decode cS_settle 26 = .ok (.getfield 31, 3) := by decide +kernel
theorem dS_settle_29 : decode cS_settle 29 = .ok (.iload_n 2, 1) := by decide +kernel
theorem dS_settle_30 : decode cS_settle 30 = .ok (.iaload, 1) := by decide +kernel
theorem dS_settle_31 : decode cS_settle 31 = .ok (.i2l, 1) := by decide +kernel
theorem dS_settle_32 : decode cS_settle 32 = .ok (.invokevirtual 213, 3) := by decide +kernel
theorem dS_settle_35 : decode cS_settle 35 = .ok (.aload_n 0, 1) := by decide +kernel
theorem dS_settle_36 : decode cS_settle 36 = .ok (.bipush 48, 2) := by decide +kernel
theorem dS_settle_38 : decode cS_settle 38 = .ok (.iconst 2, 1) := by decide +kernel
theorem dS_settle_39 : decode cS_settle 39 = .ok (.iload_n 2, 1) := by decide +kernel
theorem dS_settle_40 : decode cS_settle 40 = .ok (.imul, 1) := by decide +kernel
theorem dS_settle_41 : decode cS_settle 41 = .ok (.iadd, 1) := by decide +kernel
theorem dS_settle_42 : decode cS_settle 42 = .ok (.iconst 1, 1) := by decide +kernel
theorem dS_settle_43 : decode cS_settle 43 = .ok (.iadd, 1) := by decide +kernel
theorem dS_settle_44 : decode cS_settle 44 = .ok (.aload_n 0, 1) := by decide +kernel
theorem dS_settle_45 : decode cS_settle 45 = .ok (.getfield 12, 3) := by decide +kernel
theorem dS_settle_48 : decode cS_settle 48 = .ok (.aload_n 0, 1) := by decide +kernel
theorem dS_settle_49 : decode cS_settle 49 = .ok (.getfield 31, 3) := by decide +kernel
theorem dS_settle_52 : decode cS_settle 52 = .ok (.iload_n 2, 1) := by decide +kernel
theorem dS_settle_53 : decode cS_settle 53 = .ok (.iaload, 1) := by decide +kernel
theorem dS_settle_54 : decode cS_settle 54 = .ok (.invokevirtual 153, 3) := by decide +kernel
theorem dS_settle_57 : decode cS_settle 57 = .ok (.invokevirtual 213, 3) := by decide +kernel
theorem dS_settle_60 : decode cS_settle 60 = .ok (.iinc 2 1, 3) := by decide +kernel
theorem dS_settle_63 : decode cS_settle 63 = .ok (.goto (-50), 3) := by decide +kernel
theorem dS_settle_66 : decode cS_settle 66 = .ok (.aload_n 0, 1) := by decide +kernel
theorem dS_settle_67 : decode cS_settle 67 = .ok (.invokevirtual 216, 3) := by decide +kernel
theorem dS_settle_70 : decode cS_settle 70 = .ok (.aload_n 0, 1) := by decide +kernel
theorem dS_settle_71 : decode cS_settle 71 = .ok (.bipush 40, 2) := by decide +kernel
theorem dS_settle_73 : decode cS_settle 73 = .ok (.iload_n 1, 1) := by decide +kernel
theorem dS_settle_74 : decode cS_settle 74 = .ok (.i2l, 1) := by decide +kernel
theorem dS_settle_75 : decode cS_settle 75 = .ok (.invokevirtual 213, 3) := by decide +kernel
theorem dS_settle_78 : decode cS_settle 78 = .ok (.aload_n 0, 1) := by decide +kernel
theorem dS_settle_79 : decode cS_settle 79 = .ok (.invokevirtual 216, 3) := by decide +kernel
theorem dS_settle_82 : decode cS_settle 82 = .ok (.iconst 0, 1) := by decide +kernel
theorem dS_settle_83 : decode cS_settle 83 = .ok (.istore_n 2, 1) := by decide +kernel
theorem dS_settle_84 : decode cS_settle 84 = .ok (.iload_n 2, 1) := by decide +kernel
theorem dS_settle_85 : decode cS_settle 85 = .ok (.iload_n 1, 1) := by decide +kernel
theorem dS_settle_86 : decode cS_settle 86 = .ok (.if_icmp .ge 33, 3) := by decide +kernel
theorem dS_settle_89 : decode cS_settle 89 = .ok (.aload_n 0, 1) := by decide +kernel
theorem dS_settle_90 : decode cS_settle 90 = .ok (.aload_n 0, 1) := by decide +kernel
theorem dS_settle_91 : decode cS_settle 91 = .ok (.getfield 31, 3) := by decide +kernel
theorem dS_settle_94 : decode cS_settle 94 = .ok (.iload_n 2, 1) := by decide +kernel
theorem dS_settle_95 : decode cS_settle 95 = .ok (.iaload, 1) := by decide +kernel
theorem dS_settle_96 : decode cS_settle 96 = .ok (.aload_n 0, 1) := by decide +kernel
theorem dS_settle_97 : decode cS_settle 97 = .ok (.getfield 19, 3) := by decide +kernel
theorem dS_settle_100 : decode cS_settle 100 = .ok (.getfield 219, 3) := by decide +kernel
theorem dS_settle_103 : decode cS_settle 103 = .ok (.aload_n 0, 1) := by decide +kernel
theorem dS_settle_104 : decode cS_settle 104 = .ok (.getfield 31, 3) := by decide +kernel
theorem dS_settle_107 : decode cS_settle 107 = .ok (.iload_n 2, 1) := by decide +kernel
theorem dS_settle_108 : decode cS_settle 108 = .ok (.iaload, 1) := by decide +kernel
theorem dS_settle_109 : decode cS_settle 109 = .ok (.laload, 1) := by decide +kernel
theorem dS_settle_110 : decode cS_settle 110 = .ok (.invokevirtual 213, 3) := by decide +kernel
theorem dS_settle_113 : decode cS_settle 113 = .ok (.iinc 2 1, 3) := by decide +kernel
theorem dS_settle_116 : decode cS_settle 116 = .ok (.goto (-32), 3) := by decide +kernel
theorem dS_settle_119 : decode cS_settle 119 = .ok (.aload_n 0, 1) := by decide +kernel
theorem dS_settle_120 : decode cS_settle 120 = .ok (.invokevirtual 216, 3) := by decide +kernel
theorem dS_settle_123 : decode cS_settle 123 = .ok (.aload_n 0, 1) := by decide +kernel
theorem dS_settle_124 : decode cS_settle 124 = .ok (.bipush 40, 2) := by decide +kernel
theorem dS_settle_126 : decode cS_settle 126 = .ok (.lconst 0, 1) := by decide +kernel
theorem dS_settle_127 : decode cS_settle 127 = .ok (.invokevirtual 213, 3) := by decide +kernel
theorem dS_settle_130 : decode cS_settle 130 = .ok (.aload_n 0, 1) := by decide +kernel
theorem dS_settle_131 : decode cS_settle 131 = .ok (.invokevirtual 216, 3) := by decide +kernel
theorem dS_settle_134 : decode cS_settle 134 = .ok (.iload_n 1, 1) := by decide +kernel
theorem dS_settle_135 : decode cS_settle 135 = .ok (.ireturn, 1) := by decide +kernel
theorem dS_findChanged_0 : decode cS_findChanged 0 = .ok (.iconst 0, 1) := by decide +kernel
theorem dS_findChanged_1 : decode cS_findChanged 1 = .ok (.istore_n 1, 1) := by decide +kernel
theorem dS_findChanged_2 : decode cS_findChanged 2 = .ok (.iconst 0, 1) := by decide +kernel
theorem dS_findChanged_3 : decode cS_findChanged 3 = .ok (.istore_n 2, 1) := by decide +kernel
theorem dS_findChanged_4 : decode cS_findChanged 4 = .ok (.iload_n 2, 1) := by decide +kernel
theorem dS_findChanged_5 : decode cS_findChanged 5 = .ok (.bipush 31, 2) := by decide +kernel
theorem dS_findChanged_7 : decode cS_findChanged 7 = .ok (.if_icmp .ge 40, 3) := by decide +kernel
theorem dS_findChanged_10 : decode cS_findChanged 10 = .ok (.aload_n 0, 1) := by decide +kernel
theorem dS_findChanged_11 : decode cS_findChanged 11 = .ok (.getfield 19, 3) := by decide +kernel
theorem dS_findChanged_14 : decode cS_findChanged 14 = .ok (.getfield 219, 3) := by decide +kernel
theorem dS_findChanged_17 : decode cS_findChanged 17 = .ok (.iload_n 2, 1) := by decide +kernel
theorem dS_findChanged_18 : decode cS_findChanged 18 = .ok (.laload, 1) := by decide +kernel
theorem dS_findChanged_19 : decode cS_findChanged 19 = .ok (.aload_n 0, 1) := by decide +kernel
theorem dS_findChanged_20 : decode cS_findChanged 20 = .ok (.getfield 12, 3) := by decide +kernel
theorem dS_findChanged_23 : decode cS_findChanged 23 = .ok (.iload_n 2, 1) := by decide +kernel
theorem dS_findChanged_24 : decode cS_findChanged 24 = .ok (.invokevirtual 153, 3) := by decide +kernel
theorem dS_findChanged_27 : decode cS_findChanged 27 = .ok (.lcmp, 1) := by decide +kernel
theorem dS_findChanged_28 : decode cS_findChanged 28 = .ok (.ifCond .eq 13, 3) := by decide +kernel
theorem dS_findChanged_31 : decode cS_findChanged 31 = .ok (.aload_n 0, 1) := by decide +kernel
theorem dS_findChanged_32 : decode cS_findChanged 32 = .ok (.getfield 31, 3) := by decide +kernel
theorem dS_findChanged_35 : decode cS_findChanged 35 = .ok (.iload_n 1, 1) := by decide +kernel
theorem dS_findChanged_36 : decode cS_findChanged 36 = .ok (.iload_n 2, 1) := by decide +kernel
theorem dS_findChanged_37 : decode cS_findChanged 37 = .ok (.iastore, 1) := by decide +kernel
theorem dS_findChanged_38 : decode cS_findChanged 38 = .ok (.iinc 1 1, 3) := by decide +kernel
theorem dS_findChanged_41 : decode cS_findChanged 41 = .ok (.iinc 2 1, 3) := by decide +kernel
theorem dS_findChanged_44 : decode cS_findChanged 44 = .ok (.goto (-40), 3) := by decide +kernel
theorem dS_findChanged_47 : decode cS_findChanged 47 = .ok (.iload_n 1, 1) := by decide +kernel
theorem dS_findChanged_48 : decode cS_findChanged 48 = .ok (.ireturn, 1) := by decide +kernel
theorem dS_storeWord_0 : decode cS_storeWord 0 = .ok (.aload_n 0, 1) := by decide +kernel
theorem dS_storeWord_1 : decode cS_storeWord 1 = .ok (.invokevirtual 223, 3) := by decide +kernel
theorem dS_storeWord_4 : decode cS_storeWord 4 = .ok (.aload_n 0, 1) := by decide +kernel
theorem dS_storeWord_5 : decode cS_storeWord 5 = .ok (.getfield 12, 3) := by decide +kernel
theorem dS_storeWord_8 : decode cS_storeWord 8 = .ok (.iload_n 1, 1) := by decide +kernel
theorem dS_storeWord_9 : decode cS_storeWord 9 = .ok (.lload_n 2, 1) := by decide +kernel
theorem dS_storeWord_10 : decode cS_storeWord 10 = .ok (.invokevirtual 226, 3) := by decide +kernel
theorem dS_storeWord_13 : decode cS_storeWord 13 = .ok (.return_, 1) := by decide +kernel
theorem dS_takeStep_0 : decode cS_takeStep 0 = .ok (.aload_n 0, 1) := by decide +kernel
theorem dS_takeStep_1 : decode cS_takeStep 1 = .ok (.getfield 35, 3) := by decide +kernel
theorem dS_takeStep_4 : decode cS_takeStep 4 = .ok (.ifCond .ne 26, 3) := by decide +kernel
theorem dS_takeStep_7 : decode cS_takeStep 7 = .ok (.aload_n 0, 1) := by decide +kernel
theorem dS_takeStep_8 : decode cS_takeStep 8 = .ok (.iconst (-1), 1) := by decide +kernel
theorem dS_takeStep_9 : decode cS_takeStep 9 = .ok (.putfield 35, 3) := by decide +kernel
theorem dS_takeStep_12 : decode cS_takeStep 12 = .ok (.aload_n 0, 1) := by decide +kernel
theorem dS_takeStep_13 : decode cS_takeStep 13 = .ok (.aload_n 0, 1) := by decide +kernel
theorem dS_takeStep_14 : decode cS_takeStep 14 = .ok (.getfield 145, 3) := by decide +kernel
theorem dS_takeStep_17 : decode cS_takeStep 17 = .ok (.invokevirtual 141, 3) := by decide +kernel
theorem dS_takeStep_20 : decode cS_takeStep 20 = .ok (.new 46, 3) := by decide +kernel
theorem dS_takeStep_23 : decode cS_takeStep 23 = .ok (.dup, 1) := by decide +kernel
theorem dS_takeStep_24 : decode cS_takeStep 24 = .ok (.ldc 238, 2) := by decide +kernel
theorem dS_takeStep_26 : decode cS_takeStep 26 = .ok (.invokespecial 50, 3) := by decide +kernel
theorem dS_takeStep_29 : decode cS_takeStep 29 = .ok (.athrow, 1) := by decide +kernel
theorem dS_takeStep_30 : decode cS_takeStep 30 = .ok (.aload_n 0, 1) := by decide +kernel
theorem dS_takeStep_31 : decode cS_takeStep 31 = .ok (.getfield 35, 3) := by decide +kernel
theorem dS_takeStep_34 : decode cS_takeStep 34 = .ok (.ifCond .le 13, 3) := by decide +kernel
theorem dS_takeStep_37 : decode cS_takeStep 37 = .ok (.aload_n 0, 1) := by decide +kernel
theorem dS_takeStep_38 : decode cS_takeStep 38 = .ok (.dup, 1) := by decide +kernel
theorem dS_takeStep_39 : decode cS_takeStep 39 = .ok (.getfield 35, 3) := by decide +kernel
theorem dS_takeStep_42 : decode cS_takeStep 42 = .ok (.iconst 1, 1) := by decide +kernel
theorem dS_takeStep_43 : decode cS_takeStep 43 = .ok (.isub, 1) := by decide +kernel
theorem dS_takeStep_44 : decode cS_takeStep 44 = .ok (.putfield 35, 3) := by decide +kernel
theorem dS_takeStep_47 : decode cS_takeStep 47 = .ok (.return_, 1) := by decide +kernel
theorem dS_fallDown_0 : decode cS_fallDown 0 = .ok (.aload_n 0, 1) := by decide +kernel
theorem dS_fallDown_1 : decode cS_fallDown 1 = .ok (.getfield 12, 3) := by decide +kernel
theorem dS_fallDown_4 : decode cS_fallDown 4 = .ok (.iload_n 1, 1) := by decide +kernel
theorem dS_fallDown_5 : decode cS_fallDown 5 = .ok (.invokevirtual 240, 3) := by decide +kernel
theorem dS_fallDown_8 : decode cS_fallDown 8 = .ok (.aload_n 0, 1) := by decide +kernel
theorem dS_fallDown_9 : decode cS_fallDown 9 = .ok (.iconst 1, 1) := by decide +kernel
theorem dS_fallDown_10 : decode cS_fallDown 10 = .ok (.putfield 148, 3) := by decide +kernel
theorem dS_fallDown_13 : decode cS_fallDown 13 = .ok (.aload_n 0, 1) := by decide +kernel
theorem dS_fallDown_14 : decode cS_fallDown 14 = .ok (.iconst 0, 1) := by decide +kernel
theorem dS_fallDown_15 : decode cS_fallDown 15 = .ok (.putfield 42, 3) := by decide +kernel
theorem dS_fallDown_18 : decode cS_fallDown 18 = .ok (.iconst 0, 1) := by decide +kernel
theorem dS_fallDown_19 : decode cS_fallDown 19 = .ok (.istore_n 2, 1) := by decide +kernel
theorem dS_fallDown_20 : decode cS_fallDown 20 = .ok (.iload_n 2, 1) := by decide +kernel
theorem dS_fallDown_21 : decode cS_fallDown 21 = .ok (.iconst 2, 1) := by decide +kernel
theorem dS_fallDown_22 : decode cS_fallDown 22 = .ok (.if_icmp .ge 16, 3) := by decide +kernel
theorem dS_fallDown_25 : decode cS_fallDown 25 = .ok (.aload_n 0, 1) := by decide +kernel
theorem dS_fallDown_26 : decode cS_fallDown 26 = .ok (.getfield 27, 3) := by decide +kernel
theorem dS_fallDown_29 : decode cS_fallDown 29 = .ok (.iload_n 2, 1) := by decide +kernel
theorem dS_fallDown_30 : decode cS_fallDown 30 = .ok (.iconst 0, 1) := by decide +kernel
theorem dS_fallDown_31 : decode cS_fallDown 31 = .ok (.bastore, 1) := by decide +kernel
theorem dS_fallDown_32 : decode cS_fallDown 32 = .ok (.iinc 2 1, 3) := by decide +kernel
theorem dS_fallDown_35 : decode cS_fallDown 35 = .ok (.goto (-15), 3) := by decide +kernel
theorem dS_fallDown_38 : decode cS_fallDown 38 = .ok (.return_, 1) := by decide +kernel
theorem dM_forget_0 : decode cM_forget 0 = .ok (.aload_n 0, 1) := by decide +kernel
theorem dM_forget_1 : decode cM_forget 1 = .ok (.dup, 1) := by decide +kernel
theorem dM_forget_2 : decode cM_forget 2 = .ok (.getfield 54, 3) := by decide +kernel
theorem dM_forget_5 : decode cM_forget 5 = .ok (.iconst 1, 1) := by decide +kernel
theorem dM_forget_6 : decode cM_forget 6 = .ok (.iadd, 1) := by decide +kernel
theorem dM_forget_7 : decode cM_forget 7 = .ok (.putfield 54, 3) := by decide +kernel
theorem dM_forget_10 : decode cM_forget 10 = .ok (.iload_n 1, 1) := by decide +kernel
theorem dM_forget_11 : decode cM_forget 11 = .ok (.istore_n 2, 1) := by decide +kernel
theorem dM_forget_12 : decode cM_forget 12 = .ok (.iconst 0, 1) := by decide +kernel
theorem dM_forget_13 : decode cM_forget 13 = .ok (.istore_n 3, 1) := by decide +kernel
theorem dM_forget_14 : decode cM_forget 14 = .ok (.iload_n 3, 1) := by decide +kernel
theorem dM_forget_15 : decode cM_forget 15 = .ok (.bipush 112, 2) := by decide +kernel
theorem dM_forget_17 : decode cM_forget 17 = .ok (.if_icmp .ge 94, 3) := by decide +kernel
theorem dM_forget_20 : decode cM_forget 20 = .ok (.aload_n 0, 1) := by decide +kernel
theorem dM_forget_21 : decode cM_forget 21 = .ok (.getfield 21, 3) := by decide +kernel
theorem dM_forget_24 : decode cM_forget 24 = .ok (.iload_n 3, 1) := by decide +kernel
theorem dM_forget_25 : decode cM_forget 25 = .ok (.iaload, 1) := by decide +kernel
theorem dM_forget_26 : decode cM_forget 26 = .ok (.ifCond .le 67, 3) := by decide +kernel
theorem dM_forget_29 : decode cM_forget 29 = .ok (.iload_n 2, 1) := by decide +kernel
theorem dM_forget_30 : decode cM_forget 30 = .ok (.ldc 57, 2) := by decide +kernel
theorem dM_forget_32 : decode cM_forget 32 = .ok (.imul, 1) := by decide +kernel
theorem dM_forget_33 : decode cM_forget 33 = .ok (.sipush 12345, 3) := by decide +kernel
theorem dM_forget_36 : decode cM_forget 36 = .ok (.iadd, 1) := by decide +kernel
theorem dM_forget_37 : decode cM_forget 37 = .ok (.istore_n 2, 1) := by decide +kernel
theorem dM_forget_38 : decode cM_forget 38 = .ok (.iload_n 2, 1) := by decide +kernel
theorem dM_forget_39 : decode cM_forget 39 = .ok (.bipush 16, 2) := by decide +kernel
theorem dM_forget_41 : decode cM_forget 41 = .ok (.iushr, 1) := by decide +kernel
theorem dM_forget_42 : decode cM_forget 42 = .ok (.aload_n 0, 1) := by decide +kernel
theorem dM_forget_43 : decode cM_forget 43 = .ok (.getfield 21, 3) := by decide +kernel
theorem dM_forget_46 : decode cM_forget 46 = .ok (.iload_n 3, 1) := by decide +kernel
theorem dM_forget_47 : decode cM_forget 47 = .ok (.iaload, 1) := by decide +kernel
theorem dM_forget_48 : decode cM_forget 48 = .ok (.iconst 1, 1) := by decide +kernel
theorem dM_forget_49 : decode cM_forget 49 = .ok (.iadd, 1) := by decide +kernel
theorem dM_forget_50 : decode cM_forget 50 = .ok (.irem, 1) := by decide +kernel
theorem dM_forget_51 : decode cM_forget 51 = .ok (.istore 4, 2) := by decide +kernel
theorem dM_forget_53 : decode cM_forget 53 = .ok (.aload_n 0, 1) := by decide +kernel
theorem dM_forget_54 : decode cM_forget 54 = .ok (.getfield 15, 3) := by decide +kernel
theorem dM_forget_57 : decode cM_forget 57 = .ok (.iload_n 3, 1) := by decide +kernel
theorem dM_forget_58 : decode cM_forget 58 = .ok (.iload 4, 2) := by decide +kernel
theorem dM_forget_60 : decode cM_forget 60 = .ok (.ifCond .ne 12, 3) := by decide +kernel
theorem dM_forget_63 : decode cM_forget 63 = .ok (.aload_n 0, 1) := by decide +kernel
theorem dM_forget_64 : decode cM_forget 64 = .ok (.getfield 15, 3) := by decide +kernel
theorem dM_forget_67 : decode cM_forget 67 = .ok (.iload_n 3, 1) := by decide +kernel
theorem dM_forget_68 : decode cM_forget 68 = .ok (.laload, 1) := by decide +kernel
theorem dM_forget_69 : decode cM_forget 69 = .ok (.goto 16, 3) := by decide +kernel
theorem dM_forget_72 : decode cM_forget 72 = .ok (.aload_n 0, 1) := by decide +kernel
theorem dM_forget_73 : decode cM_forget 73 = .ok (.getfield 18, 3) := by decide +kernel
theorem dM_forget_76 : decode cM_forget 76 = .ok (.iload_n 3, 1) := by decide +kernel
theorem dM_forget_77 : decode cM_forget 77 = .ok (.iconst 1, 1) := by decide +kernel
theorem dM_forget_78 : decode cM_forget 78 = .ok (.imul, 1) := by decide +kernel
theorem dM_forget_79 : decode cM_forget 79 = .ok (.iload 4, 2) := by decide +kernel
theorem dM_forget_81 : decode cM_forget 81 = .ok (.iadd, 1) := by decide +kernel
theorem dM_forget_82 : decode cM_forget 82 = .ok (.iconst 1, 1) := by decide +kernel
theorem dM_forget_83 : decode cM_forget 83 = .ok (.isub, 1) := by decide +kernel
theorem dM_forget_84 : decode cM_forget 84 = .ok (.laload, 1) := by decide +kernel
theorem dM_forget_85 : decode cM_forget 85 = .ok (.lastore, 1) := by decide +kernel
theorem dM_forget_86 : decode cM_forget 86 = .ok (.aload_n 0, 1) := by decide +kernel
theorem dM_forget_87 : decode cM_forget 87 = .ok (.getfield 21, 3) := by decide +kernel
theorem dM_forget_90 : decode cM_forget 90 = .ok (.iload_n 3, 1) := by decide +kernel
theorem dM_forget_91 : decode cM_forget 91 = .ok (.iconst 0, 1) := by decide +kernel
theorem dM_forget_92 : decode cM_forget 92 = .ok (.iastore, 1) := by decide +kernel
theorem dM_forget_93 : decode cM_forget 93 = .ok (.aload_n 0, 1) := by decide +kernel
theorem dM_forget_94 : decode cM_forget 94 = .ok (.getfield 9, 3) := by decide +kernel
theorem dM_forget_97 : decode cM_forget 97 = .ok (.iload_n 3, 1) := by decide +kernel
theorem dM_forget_98 : decode cM_forget 98 = .ok (.aload_n 0, 1) := by decide +kernel
theorem dM_forget_99 : decode cM_forget 99 = .ok (.getfield 15, 3) := by decide +kernel
theorem dM_forget_102 : decode cM_forget 102 = .ok (.iload_n 3, 1) := by decide +kernel
theorem dM_forget_103 : decode cM_forget 103 = .ok (.laload, 1) := by decide +kernel
theorem dM_forget_104 : decode cM_forget 104 = .ok (.lastore, 1) := by decide +kernel
theorem dM_forget_105 : decode cM_forget 105 = .ok (.iinc 3 1, 3) := by decide +kernel
theorem dM_forget_108 : decode cM_forget 108 = .ok (.goto (-94), 3) := by decide +kernel
theorem dM_forget_111 : decode cM_forget 111 = .ok (.iconst 0, 1) := by decide +kernel
theorem dM_forget_112 : decode cM_forget 112 = .ok (.istore_n 3, 1) := by decide +kernel
theorem dM_forget_113 : decode cM_forget 113 = .ok (.iload_n 3, 1) := by decide +kernel
theorem dM_forget_114 : decode cM_forget 114 = .ok (.bipush 14, 2) := by decide +kernel
theorem dM_forget_116 : decode cM_forget 116 = .ok (.if_icmp .ge 23, 3) := by decide +kernel
theorem dM_forget_119 : decode cM_forget 119 = .ok (.aload_n 0, 1) := by decide +kernel
theorem dM_forget_120 : decode cM_forget 120 = .ok (.getfield 25, 3) := by decide +kernel
theorem dM_forget_123 : decode cM_forget 123 = .ok (.iload_n 3, 1) := by decide +kernel
theorem dM_forget_124 : decode cM_forget 124 = .ok (.iconst 0, 1) := by decide +kernel
theorem dM_forget_125 : decode cM_forget 125 = .ok (.bastore, 1) := by decide +kernel
theorem dM_forget_126 : decode cM_forget 126 = .ok (.aload_n 0, 1) := by decide +kernel
theorem dM_forget_127 : decode cM_forget 127 = .ok (.getfield 29, 3) := by decide +kernel
theorem dM_forget_130 : decode cM_forget 130 = .ok (.iload_n 3, 1) := by decide +kernel
theorem dM_forget_131 : decode cM_forget 131 = .ok (.iconst 0, 1) := by decide +kernel
theorem dM_forget_132 : decode cM_forget 132 = .ok (.bastore, 1) := by decide +kernel
theorem dM_forget_133 : decode cM_forget 133 = .ok (.iinc 3 1, 3) := by decide +kernel
theorem dM_forget_136 : decode cM_forget 136 = .ok (.goto (-23), 3) := by decide +kernel
theorem dM_forget_139 : decode cM_forget 139 = .ok (.return_, 1) := by decide +kernel
theorem dM_store_0 : decode cM_store 0 = .ok (.iload_n 1, 1) := by decide +kernel
theorem dM_store_1 : decode cM_store 1 = .ok (.i2l, 1) := by decide +kernel
theorem dM_store_2 : decode cM_store 2 = .ok (.invokestatic 32, 3) := by decide +kernel
theorem dM_store_5 : decode cM_store 5 = .ok (.ifCond .ne 4, 3) := by decide +kernel
theorem dM_store_8 : decode cM_store 8 = .ok (.return_, 1) := by decide +kernel
theorem dM_store_9 : decode cM_store 9 = .ok (.aload_n 0, 1) := by decide +kernel
theorem dM_store_10 : decode cM_store 10 = .ok (.dup, 1) := by decide +kernel
theorem dM_store_11 : decode cM_store 11 = .ok (.getfield 40, 3) := by decide +kernel
theorem dM_store_14 : decode cM_store 14 = .ok (.iconst 1, 1) := by decide +kernel
theorem dM_store_15 : decode cM_store 15 = .ok (.iadd, 1) := by decide +kernel
theorem dM_store_16 : decode cM_store 16 = .ok (.putfield 40, 3) := by decide +kernel
theorem dM_store_19 : decode cM_store 19 = .ok (.aload_n 0, 1) := by decide +kernel
theorem dM_store_20 : decode cM_store 20 = .ok (.getfield 9, 3) := by decide +kernel
theorem dM_store_23 : decode cM_store 23 = .ok (.iload_n 1, 1) := by decide +kernel
theorem dM_store_24 : decode cM_store 24 = .ok (.lload_n 2, 1) := by decide +kernel
theorem dM_store_25 : decode cM_store 25 = .ok (.lastore, 1) := by decide +kernel
theorem dM_store_26 : decode cM_store 26 = .ok (.aload_n 0, 1) := by decide +kernel
theorem dM_store_27 : decode cM_store 27 = .ok (.getfield 25, 3) := by decide +kernel
theorem dM_store_30 : decode cM_store 30 = .ok (.iload_n 1, 1) := by decide +kernel
theorem dM_store_31 : decode cM_store 31 = .ok (.bipush 8, 2) := by decide +kernel
theorem dM_store_33 : decode cM_store 33 = .ok (.idiv, 1) := by decide +kernel
theorem dM_store_34 : decode cM_store 34 = .ok (.iconst 1, 1) := by decide +kernel
theorem dM_store_35 : decode cM_store 35 = .ok (.bastore, 1) := by decide +kernel
theorem dM_store_36 : decode cM_store 36 = .ok (.aload_n 0, 1) := by decide +kernel
theorem dM_store_37 : decode cM_store 37 = .ok (.getfield 21, 3) := by decide +kernel
theorem dM_store_40 : decode cM_store 40 = .ok (.iload_n 1, 1) := by decide +kernel
theorem dM_store_41 : decode cM_store 41 = .ok (.iaload, 1) := by decide +kernel
theorem dM_store_42 : decode cM_store 42 = .ok (.iconst 1, 1) := by decide +kernel
theorem dM_store_43 : decode cM_store 43 = .ok (.if_icmp .ge 29, 3) := by decide +kernel
theorem dM_store_46 : decode cM_store 46 = .ok (.aload_n 0, 1) := by decide +kernel
theorem dM_store_47 : decode cM_store 47 = .ok (.getfield 18, 3) := by decide +kernel
theorem dM_store_50 : decode cM_store 50 = .ok (.iload_n 1, 1) := by decide +kernel
theorem dM_store_51 : decode cM_store 51 = .ok (.iconst 1, 1) := by decide +kernel
theorem dM_store_52 : decode cM_store 52 = .ok (.imul, 1) := by decide +kernel
theorem dM_store_53 : decode cM_store 53 = .ok (.aload_n 0, 1) := by decide +kernel
theorem dM_store_54 : decode cM_store 54 = .ok (.getfield 21, 3) := by decide +kernel
theorem dM_store_57 : decode cM_store 57 = .ok (.iload_n 1, 1) := by decide +kernel
theorem dM_store_58 : decode cM_store 58 = .ok (.iaload, 1) := by decide +kernel
theorem dM_store_59 : decode cM_store 59 = .ok (.iadd, 1) := by decide +kernel
theorem dM_store_60 : decode cM_store 60 = .ok (.lload_n 2, 1) := by decide +kernel
theorem dM_store_61 : decode cM_store 61 = .ok (.lastore, 1) := by decide +kernel
theorem dM_store_62 : decode cM_store 62 = .ok (.aload_n 0, 1) := by decide +kernel
theorem dM_store_63 : decode cM_store 63 = .ok (.getfield 21, 3) := by decide +kernel
theorem dM_store_66 : decode cM_store 66 = .ok (.iload_n 1, 1) := by decide +kernel
theorem dM_store_67 : decode cM_store 67 = .ok (.dup2, 1) := by decide +kernel
theorem dM_store_68 : decode cM_store 68 = .ok (.iaload, 1) := by decide +kernel
theorem dM_store_69 : decode cM_store 69 = .ok (.iconst 1, 1) := by decide +kernel
theorem dM_store_70 : decode cM_store 70 = .ok (.iadd, 1) := by decide +kernel
theorem dM_store_71 : decode cM_store 71 = .ok (.iastore, 1) := by decide +kernel
theorem dM_store_72 : decode cM_store 72 = .ok (.return_, 1) := by decide +kernel
theorem dS_flushAndFence_0 : decode cS_flushAndFence 0 = .ok (.iconst 0, 1) := by decide +kernel
theorem dS_flushAndFence_1 : decode cS_flushAndFence 1 = .ok (.istore_n 1, 1) := by decide +kernel
theorem dS_flushAndFence_2 : decode cS_flushAndFence 2 = .ok (.iload_n 1, 1) := by decide +kernel
theorem dS_flushAndFence_3 : decode cS_flushAndFence 3 = .ok (.bipush 14, 2) := by decide +kernel
theorem dS_flushAndFence_5 : decode cS_flushAndFence 5 = .ok (.if_icmp .ge 32, 3) := by decide +kernel
theorem dS_flushAndFence_8 : decode cS_flushAndFence 8 = .ok (.aload_n 0, 1) := by decide +kernel
theorem dS_flushAndFence_9 : decode cS_flushAndFence 9 = .ok (.getfield 12, 3) := by decide +kernel
theorem dS_flushAndFence_12 : decode cS_flushAndFence 12 = .ok (.iload_n 1, 1) := by decide +kernel
theorem dS_flushAndFence_13 : decode cS_flushAndFence 13 = .ok (.invokevirtual 229, 3) := by decide +kernel
theorem dS_flushAndFence_16 : decode cS_flushAndFence 16 = .ok (.ifCond .eq 15, 3) := by decide +kernel
theorem dS_flushAndFence_19 : decode cS_flushAndFence 19 = .ok (.aload_n 0, 1) := by decide +kernel
theorem dS_flushAndFence_20 : decode cS_flushAndFence 20 = .ok (.invokevirtual 223, 3) := by decide +kernel
theorem dS_flushAndFence_23 : decode cS_flushAndFence 23 = .ok (.aload_n 0, 1) := by decide +kernel
theorem dS_flushAndFence_24 : decode cS_flushAndFence 24 = .ok (.getfield 12, 3) := by decide +kernel
theorem dS_flushAndFence_27 : decode cS_flushAndFence 27 = .ok (.iload_n 1, 1) := by decide +kernel
theorem dS_flushAndFence_28 : decode cS_flushAndFence 28 = .ok (.invokevirtual 232, 3) := by decide +kernel
theorem dS_flushAndFence_31 : decode cS_flushAndFence 31 = .ok (.iinc 1 1, 3) := by decide +kernel
theorem dS_flushAndFence_34 : decode cS_flushAndFence 34 = .ok (.goto (-32), 3) := by decide +kernel
theorem dS_flushAndFence_37 : decode cS_flushAndFence 37 = .ok (.aload_n 0, 1) := by decide +kernel
theorem dS_flushAndFence_38 : decode cS_flushAndFence 38 = .ok (.invokevirtual 223, 3) := by decide +kernel
theorem dS_flushAndFence_41 : decode cS_flushAndFence 41 = .ok (.aload_n 0, 1) := by decide +kernel
theorem dS_flushAndFence_42 : decode cS_flushAndFence 42 = .ok (.getfield 12, 3) := by decide +kernel
theorem dS_flushAndFence_45 : decode cS_flushAndFence 45 = .ok (.invokevirtual 235, 3) := by decide +kernel
theorem dS_flushAndFence_48 : decode cS_flushAndFence 48 = .ok (.return_, 1) := by decide +kernel
theorem dM_isUnflushed_0 : decode cM_isUnflushed 0 = .ok (.iload_n 1, 1) := by decide +kernel
theorem dM_isUnflushed_1 : decode cM_isUnflushed 1 = .ok (.i2l, 1) := by decide +kernel
theorem dM_isUnflushed_2 : decode cM_isUnflushed 2 = .ok (.bipush 13, 2) := by decide +kernel
theorem dM_isUnflushed_4 : decode cM_isUnflushed 4 = .ok (.invokestatic 36, 3) := by decide +kernel
theorem dM_isUnflushed_7 : decode cM_isUnflushed 7 = .ok (.ifCond .eq 16, 3) := by decide +kernel
theorem dM_isUnflushed_10 : decode cM_isUnflushed 10 = .ok (.aload_n 0, 1) := by decide +kernel
theorem dM_isUnflushed_11 : decode cM_isUnflushed 11 = .ok (.getfield 25, 3) := by decide +kernel
theorem dM_isUnflushed_14 : decode cM_isUnflushed 14 = .ok (.iload_n 1, 1) := by decide +kernel
theorem dM_isUnflushed_15 : decode cM_isUnflushed 15 = .ok (.baload, 1) := by decide +kernel
theorem dM_isUnflushed_16 : decode cM_isUnflushed 16 = .ok (.ifCond .eq 7, 3) := by decide +kernel
theorem dM_isUnflushed_19 : decode cM_isUnflushed 19 = .ok (.iconst 1, 1) := by decide +kernel
theorem dM_isUnflushed_20 : decode cM_isUnflushed 20 = .ok (.goto 4, 3) := by decide +kernel
theorem dM_isUnflushed_23 : decode cM_isUnflushed 23 = .ok (.iconst 0, 1) := by decide +kernel
theorem dM_isUnflushed_24 : decode cM_isUnflushed 24 = .ok (.ireturn, 1) := by decide +kernel
theorem dM_flush_0 : decode cM_flush 0 = .ok (.iload_n 1, 1) := by decide +kernel
theorem dM_flush_1 : decode cM_flush 1 = .ok (.i2l, 1) := by decide +kernel
theorem dM_flush_2 : decode cM_flush 2 = .ok (.bipush 13, 2) := by decide +kernel
theorem dM_flush_4 : decode cM_flush 4 = .ok (.invokestatic 36, 3) := by decide +kernel
theorem dM_flush_7 : decode cM_flush 7 = .ok (.ifCond .ne 4, 3) := by decide +kernel
theorem dM_flush_10 : decode cM_flush 10 = .ok (.return_, 1) := by decide +kernel
theorem dM_flush_11 : decode cM_flush 11 = .ok (.aload_n 0, 1) := by decide +kernel
theorem dM_flush_12 : decode cM_flush 12 = .ok (.dup, 1) := by decide +kernel
theorem dM_flush_13 : decode cM_flush 13 = .ok (.getfield 44, 3) := by decide +kernel
theorem dM_flush_16 : decode cM_flush 16 = .ok (.iconst 1, 1) := by decide +kernel
theorem dM_flush_17 : decode cM_flush 17 = .ok (.iadd, 1) := by decide +kernel
theorem dM_flush_18 : decode cM_flush 18 = .ok (.putfield 44, 3) := by decide +kernel
theorem dM_flush_21 : decode cM_flush 21 = .ok (.aload_n 0, 1) := by decide +kernel
theorem dM_flush_22 : decode cM_flush 22 = .ok (.getfield 29, 3) := by decide +kernel
theorem dM_flush_25 : decode cM_flush 25 = .ok (.iload_n 1, 1) := by decide +kernel
theorem dM_flush_26 : decode cM_flush 26 = .ok (.iconst 1, 1) := by decide +kernel
theorem dM_flush_27 : decode cM_flush 27 = .ok (.bastore, 1) := by decide +kernel
theorem dM_flush_28 : decode cM_flush 28 = .ok (.aload_n 0, 1) := by decide +kernel
theorem dM_flush_29 : decode cM_flush 29 = .ok (.getfield 25, 3) := by decide +kernel
theorem dM_flush_32 : decode cM_flush 32 = .ok (.iload_n 1, 1) := by decide +kernel
theorem dM_flush_33 : decode cM_flush 33 = .ok (.iconst 0, 1) := by decide +kernel
theorem dM_flush_34 : decode cM_flush 34 = .ok (.bastore, 1) := by decide +kernel
theorem dM_flush_35 : decode cM_flush 35 = .ok (.return_, 1) := by decide +kernel
theorem dM_fence_0 : decode cM_fence 0 = .ok (.aload_n 0, 1) := by decide +kernel
theorem dM_fence_1 : decode cM_fence 1 = .ok (.dup, 1) := by decide +kernel
theorem dM_fence_2 : decode cM_fence 2 = .ok (.getfield 47, 3) := by decide +kernel
theorem dM_fence_5 : decode cM_fence 5 = .ok (.iconst 1, 1) := by decide +kernel
theorem dM_fence_6 : decode cM_fence 6 = .ok (.iadd, 1) := by decide +kernel
theorem dM_fence_7 : decode cM_fence 7 = .ok (.putfield 47, 3) := by decide +kernel
theorem dM_fence_10 : decode cM_fence 10 = .ok (.iconst 0, 1) := by decide +kernel
theorem dM_fence_11 : decode cM_fence 11 = .ok (.istore_n 1, 1) := by decide +kernel
theorem dM_fence_12 : decode cM_fence 12 = .ok (.iload_n 1, 1) := by decide +kernel
theorem dM_fence_13 : decode cM_fence 13 = .ok (.bipush 14, 2) := by decide +kernel
theorem dM_fence_15 : decode cM_fence 15 = .ok (.if_icmp .ge 30, 3) := by decide +kernel
theorem dM_fence_18 : decode cM_fence 18 = .ok (.aload_n 0, 1) := by decide +kernel
theorem dM_fence_19 : decode cM_fence 19 = .ok (.getfield 29, 3) := by decide +kernel
theorem dM_fence_22 : decode cM_fence 22 = .ok (.iload_n 1, 1) := by decide +kernel
theorem dM_fence_23 : decode cM_fence 23 = .ok (.baload, 1) := by decide +kernel
theorem dM_fence_24 : decode cM_fence 24 = .ok (.ifCond .eq 15, 3) := by decide +kernel
theorem dM_fence_27 : decode cM_fence 27 = .ok (.aload_n 0, 1) := by decide +kernel
theorem dM_fence_28 : decode cM_fence 28 = .ok (.iload_n 1, 1) := by decide +kernel
theorem dM_fence_29 : decode cM_fence 29 = .ok (.invokevirtual 50, 3) := by decide +kernel
theorem dM_fence_32 : decode cM_fence 32 = .ok (.aload_n 0, 1) := by decide +kernel
theorem dM_fence_33 : decode cM_fence 33 = .ok (.getfield 29, 3) := by decide +kernel
theorem dM_fence_36 : decode cM_fence 36 = .ok (.iload_n 1, 1) := by decide +kernel
theorem dM_fence_37 : decode cM_fence 37 = .ok (.iconst 0, 1) := by decide +kernel
theorem dM_fence_38 : decode cM_fence 38 = .ok (.bastore, 1) := by decide +kernel
theorem dM_fence_39 : decode cM_fence 39 = .ok (.iinc 1 1, 3) := by decide +kernel
theorem dM_fence_42 : decode cM_fence 42 = .ok (.goto (-30), 3) := by decide +kernel
theorem dM_fence_45 : decode cM_fence 45 = .ok (.return_, 1) := by decide +kernel
theorem dM_keepLine_0 : decode cM_keepLine 0 = .ok (.iload_n 1, 1) := by decide +kernel
theorem dM_keepLine_1 : decode cM_keepLine 1 = .ok (.bipush 8, 2) := by decide +kernel
theorem dM_keepLine_3 : decode cM_keepLine 3 = .ok (.imul, 1) := by decide +kernel
theorem dM_keepLine_4 : decode cM_keepLine 4 = .ok (.istore_n 2, 1) := by decide +kernel
theorem dM_keepLine_5 : decode cM_keepLine 5 = .ok (.iload_n 2, 1) := by decide +kernel
theorem dM_keepLine_6 : decode cM_keepLine 6 = .ok (.istore_n 3, 1) := by decide +kernel
theorem dM_keepLine_7 : decode cM_keepLine 7 = .ok (.iload_n 3, 1) := by decide +kernel
theorem dM_keepLine_8 : decode cM_keepLine 8 = .ok (.iload_n 2, 1) := by decide +kernel
theorem dM_keepLine_9 : decode cM_keepLine 9 = .ok (.bipush 8, 2) := by decide +kernel
theorem dM_keepLine_11 : decode cM_keepLine 11 = .ok (.iadd, 1) := by decide +kernel
theorem dM_keepLine_12 : decode cM_keepLine 12 = .ok (.if_icmp .ge 28, 3) := by decide +kernel
theorem dM_keepLine_15 : decode cM_keepLine 15 = .ok (.aload_n 0, 1) := by decide +kernel
theorem dM_keepLine_16 : decode cM_keepLine 16 = .ok (.getfield 15, 3) := by decide +kernel
theorem dM_keepLine_19 : decode cM_keepLine 19 = .ok (.iload_n 3, 1) := by decide +kernel
theorem dM_keepLine_20 : decode cM_keepLine 20 = .ok (.aload_n 0, 1) := by decide +kernel
theorem dM_keepLine_21 : decode cM_keepLine 21 = .ok (.getfield 9, 3) := by decide +kernel
theorem dM_keepLine_24 : decode cM_keepLine 24 = .ok (.iload_n 3, 1) := by decide +kernel
theorem dM_keepLine_25 : decode cM_keepLine 25 = .ok (.laload, 1) := by decide +kernel
theorem dM_keepLine_26 : decode cM_keepLine 26 = .ok (.lastore, 1) := by decide +kernel
theorem dM_keepLine_27 : decode cM_keepLine 27 = .ok (.aload_n 0, 1) := by decide +kernel
theorem dM_keepLine_28 : decode cM_keepLine 28 = .ok (.getfield 21, 3) := by decide +kernel
theorem dM_keepLine_31 : decode cM_keepLine 31 = .ok (.iload_n 3, 1) := by decide +kernel
theorem dM_keepLine_32 : decode cM_keepLine 32 = .ok (.iconst 0, 1) := by decide +kernel
theorem dM_keepLine_33 : decode cM_keepLine 33 = .ok (.iastore, 1) := by decide +kernel
theorem dM_keepLine_34 : decode cM_keepLine 34 = .ok (.iinc 3 1, 3) := by decide +kernel
theorem dM_keepLine_37 : decode cM_keepLine 37 = .ok (.goto (-30), 3) := by decide +kernel
theorem dM_keepLine_40 : decode cM_keepLine 40 = .ok (.return_, 1) := by decide +kernel
theorem dS_abort_0 : decode cS_abort 0 = .ok (.aload_n 0, 1) := by decide +kernel
theorem dS_abort_1 : decode cS_abort 1 = .ok (.invokevirtual 53, 3) := by decide +kernel
theorem dS_abort_4 : decode cS_abort 4 = .ok (.aload_n 0, 1) := by decide +kernel
theorem dS_abort_5 : decode cS_abort 5 = .ok (.iconst 0, 1) := by decide +kernel
theorem dS_abort_6 : decode cS_abort 6 = .ok (.putfield 42, 3) := by decide +kernel
theorem dS_abort_9 : decode cS_abort 9 = .ok (.aload_n 0, 1) := by decide +kernel
theorem dS_abort_10 : decode cS_abort 10 = .ok (.getfield 19, 3) := by decide +kernel
theorem dS_abort_13 : decode cS_abort 13 = .ok (.aload_n 0, 1) := by decide +kernel
theorem dS_abort_14 : decode cS_abort 14 = .ok (.getfield 12, 3) := by decide +kernel
theorem dS_abort_17 : decode cS_abort 17 = .ok (.invokevirtual 60, 3) := by decide +kernel
theorem dS_abort_20 : decode cS_abort 20 = .ok (.return_, 1) := by decide +kernel
theorem dI_load_0 : decode cI_load 0 = .ok (.aload_n 1, 1) := by decide +kernel
theorem dI_load_1 : decode cI_load 1 = .ok (.getfield 15, 3) := by decide +kernel
theorem dI_load_4 : decode cI_load 4 = .ok (.iconst 0, 1) := by decide +kernel
theorem dI_load_5 : decode cI_load 5 = .ok (.aload_n 0, 1) := by decide +kernel
theorem dI_load_6 : decode cI_load 6 = .ok (.getfield 9, 3) := by decide +kernel
theorem dI_load_9 : decode cI_load 9 = .ok (.iconst 0, 1) := by decide +kernel
theorem dI_load_10 : decode cI_load 10 = .ok (.bipush 31, 2) := by decide +kernel
theorem dI_load_12 : decode cI_load 12 = .ok (.invokestatic 20, 3) := by decide +kernel
theorem dI_load_15 : decode cI_load 15 = .ok (.return_, 1) := by decide +kernel
theorem dS_add_0 : decode cS_add 0 = .ok (.aload_n 0, 1) := by decide +kernel
theorem dS_add_1 : decode cS_add 1 = .ok (.invokevirtual 39, 3) := by decide +kernel
theorem dS_add_4 : decode cS_add 4 = .ok (.iload_n 1, 1) := by decide +kernel
theorem dS_add_5 : decode cS_add 5 = .ok (.i2l, 1) := by decide +kernel
theorem dS_add_6 : decode cS_add 6 = .ok (.invokestatic 64, 3) := by decide +kernel
theorem dS_add_9 : decode cS_add 9 = .ok (.aload_n 0, 1) := by decide +kernel
theorem dS_add_10 : decode cS_add 10 = .ok (.getfield 19, 3) := by decide +kernel
theorem dS_add_13 : decode cS_add 13 = .ok (.iload_n 1, 1) := by decide +kernel
theorem dS_add_14 : decode cS_add 14 = .ok (.lload_n 2, 1) := by decide +kernel
theorem dS_add_15 : decode cS_add 15 = .ok (.invokevirtual 68, 3) := by decide +kernel
theorem dS_add_18 : decode cS_add 18 = .ok (.aload_n 0, 1) := by decide +kernel
theorem dS_add_19 : decode cS_add 19 = .ok (.invokevirtual 72, 3) := by decide +kernel
theorem dS_add_22 : decode cS_add 22 = .ok (.aload_n 0, 1) := by decide +kernel
theorem dS_add_23 : decode cS_add 23 = .ok (.getfield 19, 3) := by decide +kernel
theorem dS_add_26 : decode cS_add 26 = .ok (.iload_n 1, 1) := by decide +kernel
theorem dS_add_27 : decode cS_add 27 = .ok (.invokevirtual 75, 3) := by decide +kernel
theorem dS_add_30 : decode cS_add 30 = .ok (.lreturn, 1) := by decide +kernel
theorem dS_requireCounter_0 : decode cS_requireCounter 0 = .ok (.lload_n 0, 1) := by decide +kernel
theorem dS_requireCounter_1 : decode cS_requireCounter 1 = .ok (.iconst 3, 1) := by decide +kernel
theorem dS_requireCounter_2 : decode cS_requireCounter 2 = .ok (.invokestatic 187, 3) := by decide +kernel
theorem dS_requireCounter_5 : decode cS_requireCounter 5 = .ok (.ifCond .ne 13, 3) := by decide +kernel
theorem dS_requireCounter_8 : decode cS_requireCounter 8 = .ok (.new 118, 3) := by decide +kernel
theorem dS_requireCounter_11 : decode cS_requireCounter 11 = .ok (.dup, 1) := by decide +kernel
theorem dS_requireCounter_12 : decode cS_requireCounter 12 = .ok (.ldc 199, 2) := by decide +kernel
theorem dS_requireCounter_14 : decode cS_requireCounter 14 = .ok (.invokespecial 122, 3) := by decide +kernel
theorem dS_requireCounter_17 : decode cS_requireCounter 17 = .ok (.athrow, 1) := by decide +kernel
theorem dS_requireCounter_18 : decode cS_requireCounter 18 = .ok (.return_, 1) := by decide +kernel
theorem dI_raise_0 : decode cI_raise 0 = .ok (.iload_n 1, 1) := by decide +kernel
theorem dI_raise_1 : decode cI_raise 1 = .ok (.i2l, 1) := by decide +kernel
theorem dI_raise_2 : decode cI_raise 2 = .ok (.iconst 3, 1) := by decide +kernel
theorem dI_raise_3 : decode cI_raise 3 = .ok (.invokestatic 26, 3) := by decide +kernel
theorem dI_raise_6 : decode cI_raise 6 = .ok (.ifCond .eq 13, 3) := by decide +kernel
theorem dI_raise_9 : decode cI_raise 9 = .ok (.aload_n 0, 1) := by decide +kernel
theorem dI_raise_10 : decode cI_raise 10 = .ok (.getfield 9, 3) := by decide +kernel
theorem dI_raise_13 : decode cI_raise 13 = .ok (.iload_n 1, 1) := by decide +kernel
theorem dI_raise_14 : decode cI_raise 14 = .ok (.dup2, 1) := by decide +kernel
theorem dI_raise_15 : decode cI_raise 15 = .ok (.laload, 1) := by decide +kernel
theorem dI_raise_16 : decode cI_raise 16 = .ok (.lload_n 2, 1) := by decide +kernel
theorem dI_raise_17 : decode cI_raise 17 = .ok (.ladd, 1) := by decide +kernel
theorem dI_raise_18 : decode cI_raise 18 = .ok (.lastore, 1) := by decide +kernel
theorem dI_raise_19 : decode cI_raise 19 = .ok (.return_, 1) := by decide +kernel
theorem dS_settleAlone_0 : decode cS_settleAlone 0 = .ok (.aload_n 0, 1) := by decide +kernel
theorem dS_settleAlone_1 : decode cS_settleAlone 1 = .ok (.getfield 42, 3) := by decide +kernel
theorem dS_settleAlone_4 : decode cS_settleAlone 4 = .ok (.ifCond .ne 8, 3) := by decide +kernel
theorem dS_settleAlone_7 : decode cS_settleAlone 7 = .ok (.aload_n 0, 1) := by decide +kernel
theorem dS_settleAlone_8 : decode cS_settleAlone 8 = .ok (.invokevirtual 56, 3) := by decide +kernel
theorem dS_settleAlone_11 : decode cS_settleAlone 11 = .ok (.pop, 1) := by decide +kernel
theorem dS_settleAlone_12 : decode cS_settleAlone 12 = .ok (.return_, 1) := by decide +kernel
theorem dI_counterAt_0 : decode cI_counterAt 0 = .ok (.iload_n 1, 1) := by decide +kernel
theorem dI_counterAt_1 : decode cI_counterAt 1 = .ok (.i2l, 1) := by decide +kernel
theorem dI_counterAt_2 : decode cI_counterAt 2 = .ok (.iconst 3, 1) := by decide +kernel
theorem dI_counterAt_3 : decode cI_counterAt 3 = .ok (.invokestatic 26, 3) := by decide +kernel
theorem dI_counterAt_6 : decode cI_counterAt 6 = .ok (.ifCond .eq 12, 3) := by decide +kernel
theorem dI_counterAt_9 : decode cI_counterAt 9 = .ok (.aload_n 0, 1) := by decide +kernel
theorem dI_counterAt_10 : decode cI_counterAt 10 = .ok (.getfield 9, 3) := by decide +kernel
theorem dI_counterAt_13 : decode cI_counterAt 13 = .ok (.iload_n 1, 1) := by decide +kernel
theorem dI_counterAt_14 : decode cI_counterAt 14 = .ok (.laload, 1) := by decide +kernel
theorem dI_counterAt_15 : decode cI_counterAt 15 = .ok (.goto 4, 3) := by decide +kernel
theorem dI_counterAt_18 : decode cI_counterAt 18 = .ok (.lconst 0, 1) := by decide +kernel
theorem dI_counterAt_19 : decode cI_counterAt 19 = .ok (.lreturn, 1) := by decide +kernel
theorem dS_push_0 : decode cS_push 0 = .ok (.aload_n 0, 1) := by decide +kernel
theorem dS_push_1 : decode cS_push 1 = .ok (.invokevirtual 39, 3) := by decide +kernel
theorem dS_push_4 : decode cS_push 4 = .ok (.aload_n 0, 1) := by decide +kernel
theorem dS_push_5 : decode cS_push 5 = .ok (.getfield 19, 3) := by decide +kernel
theorem dS_push_8 : decode cS_push 8 = .ok (.invokevirtual 79, 3) := by decide +kernel
theorem dS_push_11 : decode cS_push 11 = .ok (.bipush 8, 2) := by decide +kernel
theorem dS_push_13 : decode cS_push 13 = .ok (.if_icmp .lt 13, 3) := by decide +kernel
theorem dS_push_16 : decode cS_push 16 = .ok (.new 82, 3) := by decide +kernel
theorem dS_push_19 : decode cS_push 19 = .ok (.dup, 1) := by decide +kernel
theorem dS_push_20 : decode cS_push 20 = .ok (.ldc 84, 2) := by decide +kernel
theorem dS_push_22 : decode cS_push 22 = .ok (.invokespecial 86, 3) := by decide +kernel
theorem dS_push_25 : decode cS_push 25 = .ok (.athrow, 1) := by decide +kernel
theorem dS_push_26 : decode cS_push 26 = .ok (.aload_n 0, 1) := by decide +kernel
theorem dS_push_27 : decode cS_push 27 = .ok (.getfield 19, 3) := by decide +kernel
theorem dS_push_30 : decode cS_push 30 = .ok (.lload_n 1, 1) := by decide +kernel
theorem dS_push_31 : decode cS_push 31 = .ok (.invokevirtual 87, 3) := by decide +kernel
theorem dS_push_34 : decode cS_push 34 = .ok (.aload_n 0, 1) := by decide +kernel
theorem dS_push_35 : decode cS_push 35 = .ok (.invokevirtual 72, 3) := by decide +kernel
theorem dS_push_38 : decode cS_push 38 = .ok (.aload_n 0, 1) := by decide +kernel
theorem dS_push_39 : decode cS_push 39 = .ok (.getfield 19, 3) := by decide +kernel
theorem dS_push_42 : decode cS_push 42 = .ok (.invokevirtual 79, 3) := by decide +kernel
theorem dS_push_45 : decode cS_push 45 = .ok (.ireturn, 1) := by decide +kernel
theorem dI_append_0 : decode cI_append 0 = .ok (.aload_n 0, 1) := by decide +kernel
theorem dI_append_1 : decode cI_append 1 = .ok (.invokevirtual 46, 3) := by decide +kernel
theorem dI_append_4 : decode cI_append 4 = .ok (.istore_n 3, 1) := by decide +kernel
theorem dI_append_5 : decode cI_append 5 = .ok (.aload_n 0, 1) := by decide +kernel
theorem dI_append_6 : decode cI_append 6 = .ok (.getfield 9, 3) := by decide +kernel
theorem dI_append_9 : decode cI_append 9 = .ok (.aload_n 0, 1) := by decide +kernel
theorem dI_append_10 : decode cI_append 10 = .ok (.iload_n 3, 1) := by decide +kernel
theorem dI_append_11 : decode cI_append 11 = .ok (.invokevirtual 42, 3) := by decide +kernel
theorem dI_append_14 : decode cI_append 14 = .ok (.lload_n 1, 1) := by decide +kernel
theorem dI_append_15 : decode cI_append 15 = .ok (.lastore, 1) := by decide +kernel
theorem dI_append_16 : decode cI_append 16 = .ok (.aload_n 0, 1) := by decide +kernel
theorem dI_append_17 : decode cI_append 17 = .ok (.getfield 9, 3) := by decide +kernel
theorem dI_append_20 : decode cI_append 20 = .ok (.iconst 5, 1) := by decide +kernel
theorem dI_append_21 : decode cI_append 21 = .ok (.iload_n 3, 1) := by decide +kernel
theorem dI_append_22 : decode cI_append 22 = .ok (.iconst 1, 1) := by decide +kernel
theorem dI_append_23 : decode cI_append 23 = .ok (.iadd, 1) := by decide +kernel
theorem dI_append_24 : decode cI_append 24 = .ok (.i2l, 1) := by decide +kernel
theorem dI_append_25 : decode cI_append 25 = .ok (.lastore, 1) := by decide +kernel
theorem dI_append_26 : decode cI_append 26 = .ok (.return_, 1) := by decide +kernel
theorem dI_ringWord_0 : decode cI_ringWord 0 = .ok (.bipush 6, 2) := by decide +kernel
theorem dI_ringWord_2 : decode cI_ringWord 2 = .ok (.aload_n 0, 1) := by decide +kernel
theorem dI_ringWord_3 : decode cI_ringWord 3 = .ok (.getfield 9, 3) := by decide +kernel
theorem dI_ringWord_6 : decode cI_ringWord 6 = .ok (.iconst 4, 1) := by decide +kernel
theorem dI_ringWord_7 : decode cI_ringWord 7 = .ok (.laload, 1) := by decide +kernel
theorem dI_ringWord_8 : decode cI_ringWord 8 = .ok (.iload_n 1, 1) := by decide +kernel
theorem dI_ringWord_9 : decode cI_ringWord 9 = .ok (.i2l, 1) := by decide +kernel
theorem dI_ringWord_10 : decode cI_ringWord 10 = .ok (.ladd, 1) := by decide +kernel
theorem dI_ringWord_11 : decode cI_ringWord 11 = .ok (.ldc2_w 34, 3) := by decide +kernel
theorem dI_ringWord_14 : decode cI_ringWord 14 = .ok (.invokestatic 36, 3) := by decide +kernel
theorem dI_ringWord_17 : decode cI_ringWord 17 = .ok (.l2i, 1) := by decide +kernel
theorem dI_ringWord_18 : decode cI_ringWord 18 = .ok (.iadd, 1) := by decide +kernel
theorem dI_ringWord_19 : decode cI_ringWord 19 = .ok (.ireturn, 1) := by decide +kernel
theorem dS_pop_0 : decode cS_pop 0 = .ok (.aload_n 0, 1) := by decide +kernel
theorem dS_pop_1 : decode cS_pop 1 = .ok (.invokevirtual 39, 3) := by decide +kernel
theorem dS_pop_4 : decode cS_pop 4 = .ok (.aload_n 0, 1) := by decide +kernel
theorem dS_pop_5 : decode cS_pop 5 = .ok (.getfield 19, 3) := by decide +kernel
theorem dS_pop_8 : decode cS_pop 8 = .ok (.invokevirtual 79, 3) := by decide +kernel
theorem dS_pop_11 : decode cS_pop 11 = .ok (.ifCond .ne 13, 3) := by decide +kernel
theorem dS_pop_14 : decode cS_pop 14 = .ok (.new 82, 3) := by decide +kernel
theorem dS_pop_17 : decode cS_pop 17 = .ok (.dup, 1) := by decide +kernel
theorem dS_pop_18 : decode cS_pop 18 = .ok (.ldc 90, 2) := by decide +kernel
theorem dS_pop_20 : decode cS_pop 20 = .ok (.invokespecial 86, 3) := by decide +kernel
theorem dS_pop_23 : decode cS_pop 23 = .ok (.athrow, 1) := by decide +kernel
theorem dS_pop_24 : decode cS_pop 24 = .ok (.aload_n 0, 1) := by decide +kernel
theorem dS_pop_25 : decode cS_pop 25 = .ok (.getfield 19, 3) := by decide +kernel
theorem dS_pop_28 : decode cS_pop 28 = .ok (.iconst 0, 1) := by decide +kernel
theorem dS_pop_29 : decode cS_pop 29 = .ok (.invokevirtual 92, 3) := by decide +kernel
theorem dS_pop_32 : decode cS_pop 32 = .ok (.lstore_n 1, 1) := by decide +kernel
theorem dS_pop_33 : decode cS_pop 33 = .ok (.aload_n 0, 1) := by decide +kernel
theorem dS_pop_34 : decode cS_pop 34 = .ok (.getfield 19, 3) := by decide +kernel
theorem dS_pop_37 : decode cS_pop 37 = .ok (.invokevirtual 95, 3) := by decide +kernel
theorem dS_pop_40 : decode cS_pop 40 = .ok (.aload_n 0, 1) := by decide +kernel
theorem dS_pop_41 : decode cS_pop 41 = .ok (.invokevirtual 72, 3) := by decide +kernel
theorem dS_pop_44 : decode cS_pop 44 = .ok (.lload_n 1, 1) := by decide +kernel
theorem dS_pop_45 : decode cS_pop 45 = .ok (.lreturn, 1) := by decide +kernel
theorem dI_queuedAt_0 : decode cI_queuedAt 0 = .ok (.aload_n 0, 1) := by decide +kernel
theorem dI_queuedAt_1 : decode cI_queuedAt 1 = .ok (.getfield 9, 3) := by decide +kernel
theorem dI_queuedAt_4 : decode cI_queuedAt 4 = .ok (.aload_n 0, 1) := by decide +kernel
theorem dI_queuedAt_5 : decode cI_queuedAt 5 = .ok (.iload_n 1, 1) := by decide +kernel
theorem dI_queuedAt_6 : decode cI_queuedAt 6 = .ok (.invokevirtual 42, 3) := by decide +kernel
theorem dI_queuedAt_9 : decode cI_queuedAt 9 = .ok (.laload, 1) := by decide +kernel
theorem dI_queuedAt_10 : decode cI_queuedAt 10 = .ok (.lreturn, 1) := by decide +kernel
theorem dI_dropFirst_0 : decode cI_dropFirst 0 = .ok (.aload_n 0, 1) := by decide +kernel
theorem dI_dropFirst_1 : decode cI_dropFirst 1 = .ok (.getfield 9, 3) := by decide +kernel
theorem dI_dropFirst_4 : decode cI_dropFirst 4 = .ok (.iconst 4, 1) := by decide +kernel
theorem dI_dropFirst_5 : decode cI_dropFirst 5 = .ok (.aload_n 0, 1) := by decide +kernel
theorem dI_dropFirst_6 : decode cI_dropFirst 6 = .ok (.iconst 1, 1) := by decide +kernel
theorem dI_dropFirst_7 : decode cI_dropFirst 7 = .ok (.invokevirtual 42, 3) := by decide +kernel
theorem dI_dropFirst_10 : decode cI_dropFirst 10 = .ok (.bipush 6, 2) := by decide +kernel
theorem dI_dropFirst_12 : decode cI_dropFirst 12 = .ok (.isub, 1) := by decide +kernel
theorem dI_dropFirst_13 : decode cI_dropFirst 13 = .ok (.i2l, 1) := by decide +kernel
theorem dI_dropFirst_14 : decode cI_dropFirst 14 = .ok (.lastore, 1) := by decide +kernel
theorem dI_dropFirst_15 : decode cI_dropFirst 15 = .ok (.aload_n 0, 1) := by decide +kernel
theorem dI_dropFirst_16 : decode cI_dropFirst 16 = .ok (.getfield 9, 3) := by decide +kernel
theorem dI_dropFirst_19 : decode cI_dropFirst 19 = .ok (.iconst 5, 1) := by decide +kernel
theorem dI_dropFirst_20 : decode cI_dropFirst 20 = .ok (.aload_n 0, 1) := by decide +kernel
theorem dI_dropFirst_21 : decode cI_dropFirst 21 = .ok (.invokevirtual 46, 3) := by decide +kernel
theorem dI_dropFirst_24 : decode cI_dropFirst 24 = .ok (.iconst 1, 1) := by decide +kernel
theorem dI_dropFirst_25 : decode cI_dropFirst 25 = .ok (.isub, 1) := by decide +kernel
theorem dI_dropFirst_26 : decode cI_dropFirst 26 = .ok (.i2l, 1) := by decide +kernel
theorem dI_dropFirst_27 : decode cI_dropFirst 27 = .ok (.lastore, 1) := by decide +kernel
theorem dI_dropFirst_28 : decode cI_dropFirst 28 = .ok (.return_, 1) := by decide +kernel
theorem dS_put_0 : decode cS_put 0 = .ok (.aload_n 0, 1) := by decide +kernel
theorem dS_put_1 : decode cS_put 1 = .ok (.invokevirtual 39, 3) := by decide +kernel
theorem dS_put_4 : decode cS_put 4 = .ok (.aload_n 0, 1) := by decide +kernel
theorem dS_put_5 : decode cS_put 5 = .ok (.getfield 19, 3) := by decide +kernel
theorem dS_put_8 : decode cS_put 8 = .ok (.invokevirtual 98, 3) := by decide +kernel
theorem dS_put_11 : decode cS_put 11 = .ok (.bipush 8, 2) := by decide +kernel
theorem dS_put_13 : decode cS_put 13 = .ok (.if_icmp .lt 24, 3) := by decide +kernel
theorem dS_put_16 : decode cS_put 16 = .ok (.aload_n 0, 1) := by decide +kernel
theorem dS_put_17 : decode cS_put 17 = .ok (.getfield 19, 3) := by decide +kernel
theorem dS_put_20 : decode cS_put 20 = .ok (.lload_n 1, 1) := by decide +kernel
theorem dS_put_21 : decode cS_put 21 = .ok (.invokevirtual 101, 3) := by decide +kernel
theorem dS_put_24 : decode cS_put 24 = .ok (.ifCond .ne 13, 3) := by decide +kernel
theorem dS_put_27 : decode cS_put 27 = .ok (.new 82, 3) := by decide +kernel
theorem dS_put_30 : decode cS_put 30 = .ok (.dup, 1) := by decide +kernel
theorem dS_put_31 : decode cS_put 31 = .ok (.ldc 105, 2) := by decide +kernel
theorem dS_put_33 : decode cS_put 33 = .ok (.invokespecial 86, 3) := by decide +kernel
theorem dS_put_36 : decode cS_put 36 = .ok (.athrow, 1) := by decide +kernel
theorem dS_put_37 : decode cS_put 37 = .ok (.aload_n 0, 1) := by decide +kernel
theorem dS_put_38 : decode cS_put 38 = .ok (.getfield 19, 3) := by decide +kernel
theorem dS_put_41 : decode cS_put 41 = .ok (.lload_n 1, 1) := by decide +kernel
theorem dS_put_42 : decode cS_put 42 = .ok (.lload_n 3, 1) := by decide +kernel
theorem dS_put_43 : decode cS_put 43 = .ok (.invokevirtual 107, 3) := by decide +kernel
theorem dS_put_46 : decode cS_put 46 = .ok (.aload_n 0, 1) := by decide +kernel
theorem dS_put_47 : decode cS_put 47 = .ok (.invokevirtual 72, 3) := by decide +kernel
theorem dS_put_50 : decode cS_put 50 = .ok (.aload_n 0, 1) := by decide +kernel
theorem dS_put_51 : decode cS_put 51 = .ok (.getfield 19, 3) := by decide +kernel
theorem dS_put_54 : decode cS_put 54 = .ok (.invokevirtual 98, 3) := by decide +kernel
theorem dS_put_57 : decode cS_put 57 = .ok (.ireturn, 1) := by decide +kernel
theorem dI_hasKey_0 : decode cI_hasKey 0 = .ok (.aload_n 0, 1) := by decide +kernel
theorem dI_hasKey_1 : decode cI_hasKey 1 = .ok (.lload_n 1, 1) := by decide +kernel
theorem dI_hasKey_2 : decode cI_hasKey 2 = .ok (.invokevirtual 53, 3) := by decide +kernel
theorem dI_hasKey_5 : decode cI_hasKey 5 = .ok (.istore_n 3, 1) := by decide +kernel
theorem dI_hasKey_6 : decode cI_hasKey 6 = .ok (.iload_n 3, 1) := by decide +kernel
theorem dI_hasKey_7 : decode cI_hasKey 7 = .ok (.aload_n 0, 1) := by decide +kernel
theorem dI_hasKey_8 : decode cI_hasKey 8 = .ok (.invokevirtual 50, 3) := by decide +kernel
theorem dI_hasKey_11 : decode cI_hasKey 11 = .ok (.if_icmp .ge 17, 3) := by decide +kernel
theorem dI_hasKey_14 : decode cI_hasKey 14 = .ok (.aload_n 0, 1) := by decide +kernel
theorem dI_hasKey_15 : decode cI_hasKey 15 = .ok (.iload_n 3, 1) := by decide +kernel
theorem dI_hasKey_16 : decode cI_hasKey 16 = .ok (.invokevirtual 57, 3) := by decide +kernel
theorem dI_hasKey_19 : decode cI_hasKey 19 = .ok (.lload_n 1, 1) := by decide +kernel
theorem dI_hasKey_20 : decode cI_hasKey 20 = .ok (.lcmp, 1) := by decide +kernel
theorem dI_hasKey_21 : decode cI_hasKey 21 = .ok (.ifCond .ne 7, 3) := by decide +kernel
theorem dI_hasKey_24 : decode cI_hasKey 24 = .ok (.iconst 1, 1) := by decide +kernel
theorem dI_hasKey_25 : decode cI_hasKey 25 = .ok (.goto 4, 3) := by decide +kernel
theorem dI_hasKey_28 : decode cI_hasKey 28 = .ok (.iconst 0, 1) := by decide +kernel
theorem dI_hasKey_29 : decode cI_hasKey 29 = .ok (.ireturn, 1) := by decide +kernel
theorem dI_placeOf_0 : decode cI_placeOf 0 = .ok (.aload_n 0, 1) := by decide +kernel
theorem dI_placeOf_1 : decode cI_placeOf 1 = .ok (.invokevirtual 50, 3) := by decide +kernel
theorem dI_placeOf_4 : decode cI_placeOf 4 = .ok (.istore_n 3, 1) := by decide +kernel
theorem dI_placeOf_5 : decode cI_placeOf 5 = .ok (.iconst 0, 1) := by decide +kernel
theorem dI_placeOf_6 : decode cI_placeOf 6 = .ok (.istore 4, 2) := by decide +kernel
theorem dI_placeOf_8 : decode cI_placeOf 8 = .ok (.iload 4, 2) := by decide +kernel
theorem dI_placeOf_10 : decode cI_placeOf 10 = .ok (.iload_n 3, 1) := by decide +kernel
theorem dI_placeOf_11 : decode cI_placeOf 11 = .ok (.if_icmp .ge 24, 3) := by decide +kernel
theorem dI_placeOf_14 : decode cI_placeOf 14 = .ok (.aload_n 0, 1) := by decide +kernel
theorem dI_placeOf_15 : decode cI_placeOf 15 = .ok (.getfield 9, 3) := by decide +kernel
theorem dI_placeOf_18 : decode cI_placeOf 18 = .ok (.bipush 15, 2) := by decide +kernel
theorem dI_placeOf_20 : decode cI_placeOf 20 = .ok (.iload 4, 2) := by decide +kernel
theorem dI_placeOf_22 : decode cI_placeOf 22 = .ok (.iadd, 1) := by decide +kernel
theorem dI_placeOf_23 : decode cI_placeOf 23 = .ok (.laload, 1) := by decide +kernel
theorem dI_placeOf_24 : decode cI_placeOf 24 = .ok (.lload_n 1, 1) := by decide +kernel
theorem dI_placeOf_25 : decode cI_placeOf 25 = .ok (.lcmp, 1) := by decide +kernel
theorem dI_placeOf_26 : decode cI_placeOf 26 = .ok (.ifCond .ge 9, 3) := by decide +kernel
theorem dI_placeOf_29 : decode cI_placeOf 29 = .ok (.iinc 4 1, 3) := by decide +kernel
theorem dI_placeOf_32 : decode cI_placeOf 32 = .ok (.goto (-24), 3) := by decide +kernel
theorem dI_placeOf_35 : decode cI_placeOf 35 = .ok (.iload 4, 2) := by decide +kernel
theorem dI_placeOf_37 : decode cI_placeOf 37 = .ok (.ireturn, 1) := by decide +kernel
theorem dI_keyAt_0 : decode cI_keyAt 0 = .ok (.iload_n 1, 1) := by decide +kernel
theorem dI_keyAt_1 : decode cI_keyAt 1 = .ok (.i2l, 1) := by decide +kernel
theorem dI_keyAt_2 : decode cI_keyAt 2 = .ok (.bipush 7, 2) := by decide +kernel
theorem dI_keyAt_4 : decode cI_keyAt 4 = .ok (.invokestatic 26, 3) := by decide +kernel
theorem dI_keyAt_7 : decode cI_keyAt 7 = .ok (.ifCond .eq 15, 3) := by decide +kernel
theorem dI_keyAt_10 : decode cI_keyAt 10 = .ok (.aload_n 0, 1) := by decide +kernel
theorem dI_keyAt_11 : decode cI_keyAt 11 = .ok (.getfield 9, 3) := by decide +kernel
theorem dI_keyAt_14 : decode cI_keyAt 14 = .ok (.bipush 15, 2) := by decide +kernel
theorem dI_keyAt_16 : decode cI_keyAt 16 = .ok (.iload_n 1, 1) := by decide +kernel
theorem dI_keyAt_17 : decode cI_keyAt 17 = .ok (.iadd, 1) := by decide +kernel
theorem dI_keyAt_18 : decode cI_keyAt 18 = .ok (.laload, 1) := by decide +kernel
theorem dI_keyAt_19 : decode cI_keyAt 19 = .ok (.goto 4, 3) := by decide +kernel
theorem dI_keyAt_22 : decode cI_keyAt 22 = .ok (.lconst 0, 1) := by decide +kernel
theorem dI_keyAt_23 : decode cI_keyAt 23 = .ok (.lreturn, 1) := by decide +kernel
theorem dI_setPair_0 : decode cI_setPair 0 = .ok (.aload_n 0, 1) := by decide +kernel
theorem dI_setPair_1 : decode cI_setPair 1 = .ok (.lload_n 1, 1) := by decide +kernel
theorem dI_setPair_2 : decode cI_setPair 2 = .ok (.invokevirtual 53, 3) := by decide +kernel
theorem dI_setPair_5 : decode cI_setPair 5 = .ok (.istore 5, 2) := by decide +kernel
theorem dI_setPair_7 : decode cI_setPair 7 = .ok (.aload_n 0, 1) := by decide +kernel
theorem dI_setPair_8 : decode cI_setPair 8 = .ok (.lload_n 1, 1) := by decide +kernel
theorem dI_setPair_9 : decode cI_setPair 9 = .ok (.invokevirtual 61, 3) := by decide +kernel
theorem dI_setPair_12 : decode cI_setPair 12 = .ok (.ifCond .ne 9, 3) := by decide +kernel
theorem dI_setPair_15 : decode cI_setPair 15 = .ok (.aload_n 0, 1) := by decide +kernel
theorem dI_setPair_16 : decode cI_setPair 16 = .ok (.iload 5, 2) := by decide +kernel
theorem dI_setPair_18 : decode cI_setPair 18 = .ok (.invokevirtual 65, 3) := by decide +kernel
theorem dI_setPair_21 : decode cI_setPair 21 = .ok (.iload 5, 2) := by decide +kernel
theorem dI_setPair_23 : decode cI_setPair 23 = .ok (.i2l, 1) := by decide +kernel
theorem dI_setPair_24 : decode cI_setPair 24 = .ok (.bipush 7, 2) := by decide +kernel
theorem dI_setPair_26 : decode cI_setPair 26 = .ok (.invokestatic 26, 3) := by decide +kernel
theorem dI_setPair_29 : decode cI_setPair 29 = .ok (.ifCond .eq 25, 3) := by decide +kernel
theorem dI_setPair_32 : decode cI_setPair 32 = .ok (.aload_n 0, 1) := by decide +kernel
theorem dI_setPair_33 : decode cI_setPair 33 = .ok (.getfield 9, 3) := by decide +kernel
theorem dI_setPair_36 : decode cI_setPair 36 = .ok (.bipush 15, 2) := by decide +kernel
theorem dI_setPair_38 : decode cI_setPair 38 = .ok (.iload 5, 2) := by decide +kernel
theorem dI_setPair_40 : decode cI_setPair 40 = .ok (.iadd, 1) := by decide +kernel
theorem dI_setPair_41 : decode cI_setPair 41 = .ok (.lload_n 1, 1) := by decide +kernel
theorem dI_setPair_42 : decode cI_setPair 42 = .ok (.lastore, 1) := by decide +kernel
theorem dI_setPair_43 : decode cI_setPair 43 = .ok (.aload_n 0, 1) := by decide +kernel
theorem dI_setPair_44 : decode cI_setPair 44 = .ok (.getfield 9, 3) := by decide +kernel
theorem dI_setPair_47 : decode cI_setPair 47 = .ok (.bipush 23, 2) := by decide +kernel
theorem dI_setPair_49 : decode cI_setPair 49 = .ok (.iload 5, 2) := by decide +kernel
theorem dI_setPair_51 : decode cI_setPair 51 = .ok (.iadd, 1) := by decide +kernel
theorem dI_setPair_52 : decode cI_setPair 52 = .ok (.lload_n 3, 1) := by decide +kernel
theorem dI_setPair_53 : decode cI_setPair 53 = .ok (.lastore, 1) := by decide +kernel
theorem dI_setPair_54 : decode cI_setPair 54 = .ok (.return_, 1) := by decide +kernel
theorem dI_openPlace_0 : decode cI_openPlace 0 = .ok (.aload_n 0, 1) := by decide +kernel
theorem dI_openPlace_1 : decode cI_openPlace 1 = .ok (.invokevirtual 50, 3) := by decide +kernel
theorem dI_openPlace_4 : decode cI_openPlace 4 = .ok (.iload_n 1, 1) := by decide +kernel
theorem dI_openPlace_5 : decode cI_openPlace 5 = .ok (.isub, 1) := by decide +kernel
theorem dI_openPlace_6 : decode cI_openPlace 6 = .ok (.istore_n 2, 1) := by decide +kernel
theorem dI_openPlace_7 : decode cI_openPlace 7 = .ok (.aload_n 0, 1) := by decide +kernel
theorem dI_openPlace_8 : decode cI_openPlace 8 = .ok (.invokevirtual 50, 3) := by decide +kernel
theorem dI_openPlace_11 : decode cI_openPlace 11 = .ok (.bipush 8, 2) := by decide +kernel
theorem dI_openPlace_13 : decode cI_openPlace 13 = .ok (.if_icmp .ge 11, 3) := by decide +kernel
theorem dI_openPlace_16 : decode cI_openPlace 16 = .ok (.iload_n 1, 1) := by decide +kernel
theorem dI_openPlace_17 : decode cI_openPlace 17 = .ok (.ifCond .lt 7, 3) := by decide +kernel
theorem dI_openPlace_20 : decode cI_openPlace 20 = .ok (.iload_n 2, 1) := by decide +kernel
theorem dI_openPlace_21 : decode cI_openPlace 21 = .ok (.ifCond .ge 4, 3) := by decide +kernel
theorem dI_openPlace_24 : decode cI_openPlace 24 = .ok (.return_, 1) := by decide +kernel
theorem dI_openPlace_25 : decode cI_openPlace 25 = .ok (.aload_n 0, 1) := by decide +kernel
theorem dI_openPlace_26 : decode cI_openPlace 26 = .ok (.getfield 9, 3) := by decide +kernel
theorem dI_openPlace_29 : decode cI_openPlace 29 = .ok (.bipush 15, 2) := by decide +kernel
theorem dI_openPlace_31 : decode cI_openPlace 31 = .ok (.iload_n 1, 1) := by decide +kernel
theorem dI_openPlace_32 : decode cI_openPlace 32 = .ok (.iadd, 1) := by decide +kernel
theorem dI_openPlace_33 : decode cI_openPlace 33 = .ok (.aload_n 0, 1) := by decide +kernel
theorem dI_openPlace_34 : decode cI_openPlace 34 = .ok (.getfield 9, 3) := by decide +kernel
theorem dI_openPlace_37 : decode cI_openPlace 37 = .ok (.bipush 15, 2) := by decide +kernel
theorem dI_openPlace_39 : decode cI_openPlace 39 = .ok (.iload_n 1, 1) := by decide +kernel
theorem dI_openPlace_40 : decode cI_openPlace 40 = .ok (.iadd, 1) := by decide +kernel
theorem dI_openPlace_41 : decode cI_openPlace 41 = .ok (.iconst 1, 1) := by decide +kernel
theorem dI_openPlace_42 : decode cI_openPlace 42 = .ok (.iadd, 1) := by decide +kernel
theorem dI_openPlace_43 : decode cI_openPlace 43 = .ok (.iload_n 2, 1) := by decide +kernel
theorem dI_openPlace_44 : decode cI_openPlace 44 = .ok (.invokestatic 20, 3) := by decide +kernel
theorem dI_openPlace_47 : decode cI_openPlace 47 = .ok (.aload_n 0, 1) := by decide +kernel
theorem dI_openPlace_48 : decode cI_openPlace 48 = .ok (.getfield 9, 3) := by decide +kernel
theorem dI_openPlace_51 : decode cI_openPlace 51 = .ok (.bipush 23, 2) := by decide +kernel
theorem dI_openPlace_53 : decode cI_openPlace 53 = .ok (.iload_n 1, 1) := by decide +kernel
theorem dI_openPlace_54 : decode cI_openPlace 54 = .ok (.iadd, 1) := by decide +kernel
theorem dI_openPlace_55 : decode cI_openPlace 55 = .ok (.aload_n 0, 1) := by decide +kernel
theorem dI_openPlace_56 : decode cI_openPlace 56 = .ok (.getfield 9, 3) := by decide +kernel
theorem dI_openPlace_59 : decode cI_openPlace 59 = .ok (.bipush 23, 2) := by decide +kernel
theorem dI_openPlace_61 : decode cI_openPlace 61 = .ok (.iload_n 1, 1) := by decide +kernel
theorem dI_openPlace_62 : decode cI_openPlace 62 = .ok (.iadd, 1) := by decide +kernel
theorem dI_openPlace_63 : decode cI_openPlace 63 = .ok (.iconst 1, 1) := by decide +kernel
theorem dI_openPlace_64 : decode cI_openPlace 64 = .ok (.iadd, 1) := by decide +kernel
theorem dI_openPlace_65 : decode cI_openPlace 65 = .ok (.iload_n 2, 1) := by decide +kernel
theorem dI_openPlace_66 : decode cI_openPlace 66 = .ok (.invokestatic 20, 3) := by decide +kernel
theorem dI_openPlace_69 : decode cI_openPlace 69 = .ok (.aload_n 0, 1) := by decide +kernel
theorem dI_openPlace_70 : decode cI_openPlace 70 = .ok (.getfield 9, 3) := by decide +kernel
theorem dI_openPlace_73 : decode cI_openPlace 73 = .ok (.bipush 14, 2) := by decide +kernel
theorem dI_openPlace_75 : decode cI_openPlace 75 = .ok (.aload_n 0, 1) := by decide +kernel
theorem dI_openPlace_76 : decode cI_openPlace 76 = .ok (.invokevirtual 50, 3) := by decide +kernel
theorem dI_openPlace_79 : decode cI_openPlace 79 = .ok (.iconst 1, 1) := by decide +kernel
theorem dI_openPlace_80 : decode cI_openPlace 80 = .ok (.iadd, 1) := by decide +kernel
theorem dI_openPlace_81 : decode cI_openPlace 81 = .ok (.i2l, 1) := by decide +kernel
theorem dI_openPlace_82 : decode cI_openPlace 82 = .ok (.lastore, 1) := by decide +kernel
theorem dI_openPlace_83 : decode cI_openPlace 83 = .ok (.return_, 1) := by decide +kernel
theorem dS_cut_0 : decode cS_cut 0 = .ok (.aload_n 0, 1) := by decide +kernel
theorem dS_cut_1 : decode cS_cut 1 = .ok (.invokevirtual 39, 3) := by decide +kernel
theorem dS_cut_4 : decode cS_cut 4 = .ok (.aload_n 0, 1) := by decide +kernel
theorem dS_cut_5 : decode cS_cut 5 = .ok (.getfield 19, 3) := by decide +kernel
theorem dS_cut_8 : decode cS_cut 8 = .ok (.lload_n 1, 1) := by decide +kernel
theorem dS_cut_9 : decode cS_cut 9 = .ok (.invokevirtual 101, 3) := by decide +kernel
theorem dS_cut_12 : decode cS_cut 12 = .ok (.ifCond .ne 5, 3) := by decide +kernel
theorem dS_cut_15 : decode cS_cut 15 = .ok (.iconst 0, 1) := by decide +kernel
theorem dS_cut_16 : decode cS_cut 16 = .ok (.ireturn, 1) := by decide +kernel
theorem dS_cut_17 : decode cS_cut 17 = .ok (.aload_n 0, 1) := by decide +kernel
theorem dS_cut_18 : decode cS_cut 18 = .ok (.getfield 19, 3) := by decide +kernel
theorem dS_cut_21 : decode cS_cut 21 = .ok (.lload_n 1, 1) := by decide +kernel
theorem dS_cut_22 : decode cS_cut 22 = .ok (.invokevirtual 111, 3) := by decide +kernel
theorem dS_cut_25 : decode cS_cut 25 = .ok (.aload_n 0, 1) := by decide +kernel
theorem dS_cut_26 : decode cS_cut 26 = .ok (.invokevirtual 72, 3) := by decide +kernel
theorem dS_cut_29 : decode cS_cut 29 = .ok (.iconst 1, 1) := by decide +kernel
theorem dS_cut_30 : decode cS_cut 30 = .ok (.ireturn, 1) := by decide +kernel
theorem dI_dropPair_0 : decode cI_dropPair 0 = .ok (.aload_n 0, 1) := by decide +kernel
theorem dI_dropPair_1 : decode cI_dropPair 1 = .ok (.lload_n 1, 1) := by decide +kernel
theorem dI_dropPair_2 : decode cI_dropPair 2 = .ok (.invokevirtual 53, 3) := by decide +kernel
theorem dI_dropPair_5 : decode cI_dropPair 5 = .ok (.istore_n 3, 1) := by decide +kernel
theorem dI_dropPair_6 : decode cI_dropPair 6 = .ok (.aload_n 0, 1) := by decide +kernel
theorem dI_dropPair_7 : decode cI_dropPair 7 = .ok (.invokevirtual 50, 3) := by decide +kernel
theorem dI_dropPair_10 : decode cI_dropPair 10 = .ok (.iload_n 3, 1) := by decide +kernel
theorem dI_dropPair_11 : decode cI_dropPair 11 = .ok (.isub, 1) := by decide +kernel
theorem dI_dropPair_12 : decode cI_dropPair 12 = .ok (.iconst 1, 1) := by decide +kernel
theorem dI_dropPair_13 : decode cI_dropPair 13 = .ok (.isub, 1) := by decide +kernel
theorem dI_dropPair_14 : decode cI_dropPair 14 = .ok (.istore 4, 2) := by decide +kernel
theorem dI_dropPair_16 : decode cI_dropPair 16 = .ok (.iload 4, 2) := by decide +kernel
theorem dI_dropPair_18 : decode cI_dropPair 18 = .ok (.ifCond .ge 4, 3) := by decide +kernel
theorem dI_dropPair_21 : decode cI_dropPair 21 = .ok (.return_, 1) := by decide +kernel
theorem dI_dropPair_22 : decode cI_dropPair 22 = .ok (.aload_n 0, 1) := by decide +kernel
theorem dI_dropPair_23 : decode cI_dropPair 23 = .ok (.getfield 9, 3) := by decide +kernel
theorem dI_dropPair_26 : decode cI_dropPair 26 = .ok (.bipush 15, 2) := by decide +kernel
theorem dI_dropPair_28 : decode cI_dropPair 28 = .ok (.iload_n 3, 1) := by decide +kernel
theorem dI_dropPair_29 : decode cI_dropPair 29 = .ok (.iadd, 1) := by decide +kernel
theorem dI_dropPair_30 : decode cI_dropPair 30 = .ok (.iconst 1, 1) := by decide +kernel
theorem dI_dropPair_31 : decode cI_dropPair 31 = .ok (.iadd, 1) := by decide +kernel
theorem dI_dropPair_32 : decode cI_dropPair 32 = .ok (.aload_n 0, 1) := by decide +kernel
theorem dI_dropPair_33 : decode cI_dropPair 33 = .ok (.getfield 9, 3) := by decide +kernel
theorem dI_dropPair_36 : decode cI_dropPair 36 = .ok (.bipush 15, 2) := by decide +kernel
theorem dI_dropPair_38 : decode cI_dropPair 38 = .ok (.iload_n 3, 1) := by decide +kernel
theorem dI_dropPair_39 : decode cI_dropPair 39 = .ok (.iadd, 1) := by decide +kernel
theorem dI_dropPair_40 : decode cI_dropPair 40 = .ok (.iload 4, 2) := by decide +kernel
theorem dI_dropPair_42 : decode cI_dropPair 42 = .ok (.invokestatic 20, 3) := by decide +kernel
theorem dI_dropPair_45 : decode cI_dropPair 45 = .ok (.aload_n 0, 1) := by decide +kernel
theorem dI_dropPair_46 : decode cI_dropPair 46 = .ok (.getfield 9, 3) := by decide +kernel
theorem dI_dropPair_49 : decode cI_dropPair 49 = .ok (.bipush 23, 2) := by decide +kernel
theorem dI_dropPair_51 : decode cI_dropPair 51 = .ok (.iload_n 3, 1) := by decide +kernel
theorem dI_dropPair_52 : decode cI_dropPair 52 = .ok (.iadd, 1) := by decide +kernel
theorem dI_dropPair_53 : decode cI_dropPair 53 = .ok (.iconst 1, 1) := by decide +kernel
theorem dI_dropPair_54 : decode cI_dropPair 54 = .ok (.iadd, 1) := by decide +kernel
theorem dI_dropPair_55 : decode cI_dropPair 55 = .ok (.aload_n 0, 1) := by decide +kernel
theorem dI_dropPair_56 : decode cI_dropPair 56 = .ok (.getfield 9, 3) := by decide +kernel
theorem dI_dropPair_59 : decode cI_dropPair 59 = .ok (.bipush 23, 2) := by decide +kernel
theorem dI_dropPair_61 : decode cI_dropPair 61 = .ok (.iload_n 3, 1) := by decide +kernel
theorem dI_dropPair_62 : decode cI_dropPair 62 = .ok (.iadd, 1) := by decide +kernel
theorem dI_dropPair_63 : decode cI_dropPair 63 = .ok (.iload 4, 2) := by decide +kernel
theorem dI_dropPair_65 : decode cI_dropPair 65 = .ok (.invokestatic 20, 3) := by decide +kernel
theorem dI_dropPair_68 : decode cI_dropPair 68 = .ok (.aload_n 0, 1) := by decide +kernel
theorem dI_dropPair_69 : decode cI_dropPair 69 = .ok (.getfield 9, 3) := by decide +kernel
theorem dI_dropPair_72 : decode cI_dropPair 72 = .ok (.bipush 14, 2) := by decide +kernel
theorem dI_dropPair_74 : decode cI_dropPair 74 = .ok (.aload_n 0, 1) := by decide +kernel
theorem dI_dropPair_75 : decode cI_dropPair 75 = .ok (.invokevirtual 50, 3) := by decide +kernel
theorem dI_dropPair_78 : decode cI_dropPair 78 = .ok (.iconst 1, 1) := by decide +kernel
theorem dI_dropPair_79 : decode cI_dropPair 79 = .ok (.isub, 1) := by decide +kernel
theorem dI_dropPair_80 : decode cI_dropPair 80 = .ok (.i2l, 1) := by decide +kernel
theorem dI_dropPair_81 : decode cI_dropPair 81 = .ok (.lastore, 1) := by decide +kernel
theorem dI_dropPair_82 : decode cI_dropPair 82 = .ok (.return_, 1) := by decide +kernel
theorem dS_next_0 : decode cS_next 0 = .ok (.aload_n 0, 1) := by decide +kernel
theorem dS_next_1 : decode cS_next 1 = .ok (.invokevirtual 39, 3) := by decide +kernel
theorem dS_next_4 : decode cS_next 4 = .ok (.aload_n 0, 1) := by decide +kernel
theorem dS_next_5 : decode cS_next 5 = .ok (.getfield 19, 3) := by decide +kernel
theorem dS_next_8 : decode cS_next 8 = .ok (.lload_n 1, 1) := by decide +kernel
theorem dS_next_9 : decode cS_next 9 = .ok (.invokevirtual 114, 3) := by decide +kernel
theorem dS_next_12 : decode cS_next 12 = .ok (.istore 4, 2) := by decide +kernel
theorem dS_next_14 : decode cS_next 14 = .ok (.iload 4, 2) := by decide +kernel
theorem dS_next_16 : decode cS_next 16 = .ok (.aload_n 0, 1) := by decide +kernel
theorem dS_next_17 : decode cS_next 17 = .ok (.getfield 19, 3) := by decide +kernel
theorem dS_next_20 : decode cS_next 20 = .ok (.invokevirtual 98, 3) := by decide +kernel
theorem dS_next_23 : decode cS_next 23 = .ok (.if_icmp .lt 13, 3) := by decide +kernel
theorem dS_next_26 : decode cS_next 26 = .ok (.new 118, 3) := by decide +kernel
theorem dS_next_29 : decode cS_next 29 = .ok (.dup, 1) := by decide +kernel
theorem dS_next_30 : decode cS_next 30 = .ok (.ldc 120, 2) := by decide +kernel
theorem dS_next_32 : decode cS_next 32 = .ok (.invokespecial 122, 3) := by decide +kernel
theorem dS_next_35 : decode cS_next 35 = .ok (.athrow, 1) := by decide +kernel
theorem dS_next_36 : decode cS_next 36 = .ok (.iload_n 3, 1) := by decide +kernel
theorem dS_next_37 : decode cS_next 37 = .ok (.ifCond .eq 15, 3) := by decide +kernel
theorem dS_next_40 : decode cS_next 40 = .ok (.aload_n 0, 1) := by decide +kernel
theorem dS_next_41 : decode cS_next 41 = .ok (.getfield 19, 3) := by decide +kernel
theorem dS_next_44 : decode cS_next 44 = .ok (.iload 4, 2) := by decide +kernel
theorem dS_next_46 : decode cS_next 46 = .ok (.invokevirtual 123, 3) := by decide +kernel
theorem dS_next_49 : decode cS_next 49 = .ok (.goto 12, 3) := by decide +kernel
theorem dS_next_52 : decode cS_next 52 = .ok (.aload_n 0, 1) := by decide +kernel
theorem dS_next_53 : decode cS_next 53 = .ok (.getfield 19, 3) := by decide +kernel
theorem dS_next_56 : decode cS_next 56 = .ok (.iload 4, 2) := by decide +kernel
theorem dS_next_58 : decode cS_next 58 = .ok (.invokevirtual 126, 3) := by decide +kernel
theorem dS_next_61 : decode cS_next 61 = .ok (.lreturn, 1) := by decide +kernel
theorem dI_numberAt_0 : decode cI_numberAt 0 = .ok (.iload_n 1, 1) := by decide +kernel
theorem dI_numberAt_1 : decode cI_numberAt 1 = .ok (.i2l, 1) := by decide +kernel
theorem dI_numberAt_2 : decode cI_numberAt 2 = .ok (.bipush 7, 2) := by decide +kernel
theorem dI_numberAt_4 : decode cI_numberAt 4 = .ok (.invokestatic 26, 3) := by decide +kernel
theorem dI_numberAt_7 : decode cI_numberAt 7 = .ok (.ifCond .eq 15, 3) := by decide +kernel
theorem dI_numberAt_10 : decode cI_numberAt 10 = .ok (.aload_n 0, 1) := by decide +kernel
theorem dI_numberAt_11 : decode cI_numberAt 11 = .ok (.getfield 9, 3) := by decide +kernel
theorem dI_numberAt_14 : decode cI_numberAt 14 = .ok (.bipush 23, 2) := by decide +kernel
theorem dI_numberAt_16 : decode cI_numberAt 16 = .ok (.iload_n 1, 1) := by decide +kernel
theorem dI_numberAt_17 : decode cI_numberAt 17 = .ok (.iadd, 1) := by decide +kernel
theorem dI_numberAt_18 : decode cI_numberAt 18 = .ok (.laload, 1) := by decide +kernel
theorem dI_numberAt_19 : decode cI_numberAt 19 = .ok (.goto 4, 3) := by decide +kernel
theorem dI_numberAt_22 : decode cI_numberAt 22 = .ok (.lconst 0, 1) := by decide +kernel
theorem dI_numberAt_23 : decode cI_numberAt 23 = .ok (.lreturn, 1) := by decide +kernel
theorem dS_counter_0 : decode cS_counter 0 = .ok (.aload_n 0, 1) := by decide +kernel
theorem dS_counter_1 : decode cS_counter 1 = .ok (.invokevirtual 39, 3) := by decide +kernel
theorem dS_counter_4 : decode cS_counter 4 = .ok (.iload_n 1, 1) := by decide +kernel
theorem dS_counter_5 : decode cS_counter 5 = .ok (.i2l, 1) := by decide +kernel
theorem dS_counter_6 : decode cS_counter 6 = .ok (.invokestatic 64, 3) := by decide +kernel
theorem dS_counter_9 : decode cS_counter 9 = .ok (.aload_n 0, 1) := by decide +kernel
theorem dS_counter_10 : decode cS_counter 10 = .ok (.getfield 19, 3) := by decide +kernel
theorem dS_counter_13 : decode cS_counter 13 = .ok (.iload_n 1, 1) := by decide +kernel
theorem dS_counter_14 : decode cS_counter 14 = .ok (.invokevirtual 75, 3) := by decide +kernel
theorem dS_counter_17 : decode cS_counter 17 = .ok (.lreturn, 1) := by decide +kernel
theorem dS_queued_0 : decode cS_queued 0 = .ok (.aload_n 0, 1) := by decide +kernel
theorem dS_queued_1 : decode cS_queued 1 = .ok (.invokevirtual 39, 3) := by decide +kernel
theorem dS_queued_4 : decode cS_queued 4 = .ok (.iload_n 1, 1) := by decide +kernel
theorem dS_queued_5 : decode cS_queued 5 = .ok (.ifCond .lt 14, 3) := by decide +kernel
theorem dS_queued_8 : decode cS_queued 8 = .ok (.iload_n 1, 1) := by decide +kernel
theorem dS_queued_9 : decode cS_queued 9 = .ok (.aload_n 0, 1) := by decide +kernel
theorem dS_queued_10 : decode cS_queued 10 = .ok (.getfield 19, 3) := by decide +kernel
theorem dS_queued_13 : decode cS_queued 13 = .ok (.invokevirtual 79, 3) := by decide +kernel
theorem dS_queued_16 : decode cS_queued 16 = .ok (.if_icmp .lt 13, 3) := by decide +kernel
theorem dS_queued_19 : decode cS_queued 19 = .ok (.new 118, 3) := by decide +kernel
theorem dS_queued_22 : decode cS_queued 22 = .ok (.dup, 1) := by decide +kernel
theorem dS_queued_23 : decode cS_queued 23 = .ok (.ldc 129, 2) := by decide +kernel
theorem dS_queued_25 : decode cS_queued 25 = .ok (.invokespecial 122, 3) := by decide +kernel
theorem dS_queued_28 : decode cS_queued 28 = .ok (.athrow, 1) := by decide +kernel
theorem dS_queued_29 : decode cS_queued 29 = .ok (.aload_n 0, 1) := by decide +kernel
theorem dS_queued_30 : decode cS_queued 30 = .ok (.getfield 19, 3) := by decide +kernel
theorem dS_queued_33 : decode cS_queued 33 = .ok (.iload_n 1, 1) := by decide +kernel
theorem dS_queued_34 : decode cS_queued 34 = .ok (.invokevirtual 92, 3) := by decide +kernel
theorem dS_queued_37 : decode cS_queued 37 = .ok (.lreturn, 1) := by decide +kernel
theorem dS_freeze_0 : decode cS_freeze 0 = .ok (.aload_n 0, 1) := by decide +kernel
theorem dS_freeze_1 : decode cS_freeze 1 = .ok (.invokevirtual 39, 3) := by decide +kernel
theorem dS_freeze_4 : decode cS_freeze 4 = .ok (.iload_n 1, 1) := by decide +kernel
theorem dS_freeze_5 : decode cS_freeze 5 = .ok (.invokestatic 131, 3) := by decide +kernel
theorem dS_freeze_8 : decode cS_freeze 8 = .ok (.ifCond .ne 13, 3) := by decide +kernel
theorem dS_freeze_11 : decode cS_freeze 11 = .ok (.new 118, 3) := by decide +kernel
theorem dS_freeze_14 : decode cS_freeze 14 = .ok (.dup, 1) := by decide +kernel
theorem dS_freeze_15 : decode cS_freeze 15 = .ok (.ldc 135, 2) := by decide +kernel
theorem dS_freeze_17 : decode cS_freeze 17 = .ok (.invokespecial 122, 3) := by decide +kernel
theorem dS_freeze_20 : decode cS_freeze 20 = .ok (.athrow, 1) := by decide +kernel
theorem dS_freeze_21 : decode cS_freeze 21 = .ok (.aload_n 0, 1) := by decide +kernel
theorem dS_freeze_22 : decode cS_freeze 22 = .ok (.getfield 23, 3) := by decide +kernel
theorem dS_freeze_25 : decode cS_freeze 25 = .ok (.iload_n 1, 1) := by decide +kernel
theorem dS_freeze_26 : decode cS_freeze 26 = .ok (.aaload, 1) := by decide +kernel
theorem dS_freeze_27 : decode cS_freeze 27 = .ok (.aload_n 0, 1) := by decide +kernel
theorem dS_freeze_28 : decode cS_freeze 28 = .ok (.getfield 19, 3) := by decide +kernel
theorem dS_freeze_31 : decode cS_freeze 31 = .ok (.invokevirtual 137, 3) := by decide +kernel
theorem dS_freeze_34 : decode cS_freeze 34 = .ok (.aload_n 0, 1) := by decide +kernel
theorem dS_freeze_35 : decode cS_freeze 35 = .ok (.getfield 27, 3) := by decide +kernel
theorem dS_freeze_38 : decode cS_freeze 38 = .ok (.iload_n 1, 1) := by decide +kernel
theorem dS_freeze_39 : decode cS_freeze 39 = .ok (.iconst 1, 1) := by decide +kernel
theorem dS_freeze_40 : decode cS_freeze 40 = .ok (.bastore, 1) := by decide +kernel
theorem dS_freeze_41 : decode cS_freeze 41 = .ok (.return_, 1) := by decide +kernel
theorem dS_isSnapshot_0 : decode cS_isSnapshot 0 = .ok (.iload_n 0, 1) := by decide +kernel
theorem dS_isSnapshot_1 : decode cS_isSnapshot 1 = .ok (.i2l, 1) := by decide +kernel
theorem dS_isSnapshot_2 : decode cS_isSnapshot 2 = .ok (.iconst 1, 1) := by decide +kernel
theorem dS_isSnapshot_3 : decode cS_isSnapshot 3 = .ok (.invokestatic 187, 3) := by decide +kernel
theorem dS_isSnapshot_6 : decode cS_isSnapshot 6 = .ok (.ireturn, 1) := by decide +kernel
theorem dI_copy_0 : decode cI_copy 0 = .ok (.aload_n 1, 1) := by decide +kernel
theorem dI_copy_1 : decode cI_copy 1 = .ok (.getfield 9, 3) := by decide +kernel
theorem dI_copy_4 : decode cI_copy 4 = .ok (.iconst 0, 1) := by decide +kernel
theorem dI_copy_5 : decode cI_copy 5 = .ok (.aload_n 0, 1) := by decide +kernel
theorem dI_copy_6 : decode cI_copy 6 = .ok (.getfield 9, 3) := by decide +kernel
theorem dI_copy_9 : decode cI_copy 9 = .ok (.iconst 0, 1) := by decide +kernel
theorem dI_copy_10 : decode cI_copy 10 = .ok (.bipush 31, 2) := by decide +kernel
theorem dI_copy_12 : decode cI_copy 12 = .ok (.invokestatic 20, 3) := by decide +kernel
theorem dI_copy_15 : decode cI_copy 15 = .ok (.return_, 1) := by decide +kernel
theorem dS_frozen_0 : decode cS_frozen 0 = .ok (.iload_n 1, 1) := by decide +kernel
theorem dS_frozen_1 : decode cS_frozen 1 = .ok (.invokestatic 131, 3) := by decide +kernel
theorem dS_frozen_4 : decode cS_frozen 4 = .ok (.ifCond .eq 12, 3) := by decide +kernel
theorem dS_frozen_7 : decode cS_frozen 7 = .ok (.aload_n 0, 1) := by decide +kernel
theorem dS_frozen_8 : decode cS_frozen 8 = .ok (.getfield 27, 3) := by decide +kernel
theorem dS_frozen_11 : decode cS_frozen 11 = .ok (.iload_n 1, 1) := by decide +kernel
theorem dS_frozen_12 : decode cS_frozen 12 = .ok (.baload, 1) := by decide +kernel
theorem dS_frozen_13 : decode cS_frozen 13 = .ok (.ifCond .ne 13, 3) := by decide +kernel
theorem dS_frozen_16 : decode cS_frozen 16 = .ok (.new 118, 3) := by decide +kernel
theorem dS_frozen_19 : decode cS_frozen 19 = .ok (.dup, 1) := by decide +kernel
theorem dS_frozen_20 : decode cS_frozen 20 = .ok (.ldc 135, 2) := by decide +kernel
theorem dS_frozen_22 : decode cS_frozen 22 = .ok (.invokespecial 122, 3) := by decide +kernel
theorem dS_frozen_25 : decode cS_frozen 25 = .ok (.athrow, 1) := by decide +kernel
theorem dS_frozen_26 : decode cS_frozen 26 = .ok (.aload_n 0, 1) := by decide +kernel
theorem dS_frozen_27 : decode cS_frozen 27 = .ok (.getfield 23, 3) := by decide +kernel
theorem dS_frozen_30 : decode cS_frozen 30 = .ok (.iload_n 1, 1) := by decide +kernel
theorem dS_frozen_31 : decode cS_frozen 31 = .ok (.aaload, 1) := by decide +kernel
theorem dS_frozen_32 : decode cS_frozen 32 = .ok (.astore 5, 2) := by decide +kernel
theorem dS_frozen_34 : decode cS_frozen 34 = .ok (.iload_n 2, 1) := by decide +kernel
theorem dS_frozen_35 : decode cS_frozen 35 = .ok (.ifCond .eq 15, 3) := by decide +kernel
theorem dS_frozen_38 : decode cS_frozen 38 = .ok (.lload_n 3, 1) := by decide +kernel
theorem dS_frozen_39 : decode cS_frozen 39 = .ok (.invokestatic 64, 3) := by decide +kernel
theorem dS_frozen_42 : decode cS_frozen 42 = .ok (.aload 5, 2) := by decide +kernel
theorem dS_frozen_44 : decode cS_frozen 44 = .ok (.lload_n 3, 1) := by decide +kernel
theorem dS_frozen_45 : decode cS_frozen 45 = .ok (.l2i, 1) := by decide +kernel
theorem dS_frozen_46 : decode cS_frozen 46 = .ok (.invokevirtual 75, 3) := by decide +kernel
theorem dS_frozen_49 : decode cS_frozen 49 = .ok (.lreturn, 1) := by decide +kernel
theorem dS_frozen_50 : decode cS_frozen 50 = .ok (.aload 5, 2) := by decide +kernel
theorem dS_frozen_52 : decode cS_frozen 52 = .ok (.lload_n 3, 1) := by decide +kernel
theorem dS_frozen_53 : decode cS_frozen 53 = .ok (.invokevirtual 101, 3) := by decide +kernel
theorem dS_frozen_56 : decode cS_frozen 56 = .ok (.ifCond .ne 13, 3) := by decide +kernel
theorem dS_frozen_59 : decode cS_frozen 59 = .ok (.new 118, 3) := by decide +kernel
theorem dS_frozen_62 : decode cS_frozen 62 = .ok (.dup, 1) := by decide +kernel
theorem dS_frozen_63 : decode cS_frozen 63 = .ok (.ldc 120, 2) := by decide +kernel
theorem dS_frozen_65 : decode cS_frozen 65 = .ok (.invokespecial 122, 3) := by decide +kernel
theorem dS_frozen_68 : decode cS_frozen 68 = .ok (.athrow, 1) := by decide +kernel
theorem dS_frozen_69 : decode cS_frozen 69 = .ok (.aload 5, 2) := by decide +kernel
theorem dS_frozen_71 : decode cS_frozen 71 = .ok (.aload 5, 2) := by decide +kernel
theorem dS_frozen_73 : decode cS_frozen 73 = .ok (.lload_n 3, 1) := by decide +kernel
theorem dS_frozen_74 : decode cS_frozen 74 = .ok (.invokevirtual 114, 3) := by decide +kernel
theorem dS_frozen_77 : decode cS_frozen 77 = .ok (.invokevirtual 126, 3) := by decide +kernel
theorem dS_frozen_80 : decode cS_frozen 80 = .ok (.lreturn, 1) := by decide +kernel
theorem dS_crash_0 : decode cS_crash 0 = .ok (.aload_n 0, 1) := by decide +kernel
theorem dS_crash_1 : decode cS_crash 1 = .ok (.invokevirtual 39, 3) := by decide +kernel
theorem dS_crash_4 : decode cS_crash 4 = .ok (.aload_n 0, 1) := by decide +kernel
theorem dS_crash_5 : decode cS_crash 5 = .ok (.iload_n 1, 1) := by decide +kernel
theorem dS_crash_6 : decode cS_crash 6 = .ok (.invokevirtual 141, 3) := by decide +kernel
theorem dS_crash_9 : decode cS_crash 9 = .ok (.return_, 1) := by decide +kernel
theorem dS_recover_0 : decode cS_recover 0 = .ok (.aload_n 0, 1) := by decide +kernel
theorem dS_recover_1 : decode cS_recover 1 = .ok (.getfield 148, 3) := by decide +kernel
theorem dS_recover_4 : decode cS_recover 4 = .ok (.ifCond .ne 13, 3) := by decide +kernel
theorem dS_recover_7 : decode cS_recover 7 = .ok (.new 46, 3) := by decide +kernel
theorem dS_recover_10 : decode cS_recover 10 = .ok (.dup, 1) := by decide +kernel
theorem dS_recover_11 : decode cS_recover 11 = .ok (.ldc 151, 2) := by decide +kernel
theorem dS_recover_13 : decode cS_recover 13 = .ok (.invokespecial 50, 3) := by decide +kernel
theorem dS_recover_16 : decode cS_recover 16 = .ok (.athrow, 1) := by decide +kernel
theorem dS_recover_17 : decode cS_recover 17 = .ok (.aload_n 0, 1) := by decide +kernel
theorem dS_recover_18 : decode cS_recover 18 = .ok (.getfield 12, 3) := by decide +kernel
theorem dS_recover_21 : decode cS_recover 21 = .ok (.bipush 40, 2) := by decide +kernel
theorem dS_recover_23 : decode cS_recover 23 = .ok (.invokevirtual 153, 3) := by decide +kernel
theorem dS_recover_26 : decode cS_recover 26 = .ok (.bipush 32, 2) := by decide +kernel
theorem dS_recover_28 : decode cS_recover 28 = .ok (.invokestatic 156, 3) := by decide +kernel
theorem dS_recover_31 : decode cS_recover 31 = .ok (.istore_n 1, 1) := by decide +kernel
theorem dS_recover_32 : decode cS_recover 32 = .ok (.iload_n 1, 1) := by decide +kernel
theorem dS_recover_33 : decode cS_recover 33 = .ok (.ifCond .le 8, 3) := by decide +kernel
theorem dS_recover_36 : decode cS_recover 36 = .ok (.aload_n 0, 1) := by decide +kernel
theorem dS_recover_37 : decode cS_recover 37 = .ok (.iload_n 1, 1) := by decide +kernel
theorem dS_recover_38 : decode cS_recover 38 = .ok (.invokevirtual 160, 3) := by decide +kernel
theorem dS_recover_41 : decode cS_recover 41 = .ok (.aload_n 0, 1) := by decide +kernel
theorem dS_recover_42 : decode cS_recover 42 = .ok (.getfield 19, 3) := by decide +kernel
theorem dS_recover_45 : decode cS_recover 45 = .ok (.aload_n 0, 1) := by decide +kernel
theorem dS_recover_46 : decode cS_recover 46 = .ok (.getfield 12, 3) := by decide +kernel
theorem dS_recover_49 : decode cS_recover 49 = .ok (.invokevirtual 60, 3) := by decide +kernel
theorem dS_recover_52 : decode cS_recover 52 = .ok (.aload_n 0, 1) := by decide +kernel
theorem dS_recover_53 : decode cS_recover 53 = .ok (.iconst 0, 1) := by decide +kernel
theorem dS_recover_54 : decode cS_recover 54 = .ok (.putfield 148, 3) := by decide +kernel
theorem dS_recover_57 : decode cS_recover 57 = .ok (.iload_n 1, 1) := by decide +kernel
theorem dS_recover_58 : decode cS_recover 58 = .ok (.ireturn, 1) := by decide +kernel
theorem dS_setBack_0 : decode cS_setBack 0 = .ok (.iload_n 1, 1) := by decide +kernel
theorem dS_setBack_1 : decode cS_setBack 1 = .ok (.iconst 1, 1) := by decide +kernel
theorem dS_setBack_2 : decode cS_setBack 2 = .ok (.isub, 1) := by decide +kernel
theorem dS_setBack_3 : decode cS_setBack 3 = .ok (.istore_n 2, 1) := by decide +kernel
theorem dS_setBack_4 : decode cS_setBack 4 = .ok (.iload_n 2, 1) := by decide +kernel
theorem dS_setBack_5 : decode cS_setBack 5 = .ok (.ifCond .lt 48, 3) := by decide +kernel
theorem dS_setBack_8 : decode cS_setBack 8 = .ok (.aload_n 0, 1) := by decide +kernel
theorem dS_setBack_9 : decode cS_setBack 9 = .ok (.getfield 12, 3) := by decide +kernel
theorem dS_setBack_12 : decode cS_setBack 12 = .ok (.bipush 48, 2) := by decide +kernel
theorem dS_setBack_14 : decode cS_setBack 14 = .ok (.iconst 2, 1) := by decide +kernel
theorem dS_setBack_15 : decode cS_setBack 15 = .ok (.iload_n 2, 1) := by decide +kernel
theorem dS_setBack_16 : decode cS_setBack 16 = .ok (.imul, 1) := by decide +kernel
theorem dS_setBack_17 : decode cS_setBack 17 = .ok (.iadd, 1) := by decide +kernel
theorem dS_setBack_18 : decode cS_setBack 18 = .ok (.invokevirtual 153, 3) := by decide +kernel
theorem dS_setBack_21 : decode cS_setBack 21 = .ok (.lstore_n 3, 1) := by decide +kernel
theorem dS_setBack_22 : decode cS_setBack 22 = .ok (.aload_n 0, 1) := by decide +kernel
theorem dS_setBack_23 : decode cS_setBack 23 = .ok (.lload_n 3, 1) := by decide +kernel
theorem dS_setBack_24 : decode cS_setBack 24 = .ok (.bipush 111, 2) := by decide +kernel
theorem dS_setBack_26 : decode cS_setBack 26 = .ok (.invokestatic 156, 3) := by decide +kernel
theorem dS_setBack_29 : decode cS_setBack 29 = .ok (.aload_n 0, 1) := by decide +kernel
theorem dS_setBack_30 : decode cS_setBack 30 = .ok (.getfield 12, 3) := by decide +kernel
theorem dS_setBack_33 : decode cS_setBack 33 = .ok (.bipush 48, 2) := by decide +kernel
theorem dS_setBack_35 : decode cS_setBack 35 = .ok (.iconst 2, 1) := by decide +kernel
theorem dS_setBack_36 : decode cS_setBack 36 = .ok (.iload_n 2, 1) := by decide +kernel
theorem dS_setBack_37 : decode cS_setBack 37 = .ok (.imul, 1) := by decide +kernel
theorem dS_setBack_38 : decode cS_setBack 38 = .ok (.iadd, 1) := by decide +kernel
theorem dS_setBack_39 : decode cS_setBack 39 = .ok (.iconst 1, 1) := by decide +kernel
theorem dS_setBack_40 : decode cS_setBack 40 = .ok (.iadd, 1) := by decide +kernel
theorem dS_setBack_41 : decode cS_setBack 41 = .ok (.invokevirtual 153, 3) := by decide +kernel
theorem dS_setBack_44 : decode cS_setBack 44 = .ok (.invokevirtual 213, 3) := by decide +kernel
theorem dS_setBack_47 : decode cS_setBack 47 = .ok (.iinc 2 (-1), 3) := by decide +kernel
theorem dS_setBack_50 : decode cS_setBack 50 = .ok (.goto (-46), 3) := by decide +kernel
theorem dS_setBack_53 : decode cS_setBack 53 = .ok (.aload_n 0, 1) := by decide +kernel
theorem dS_setBack_54 : decode cS_setBack 54 = .ok (.invokevirtual 216, 3) := by decide +kernel
theorem dS_setBack_57 : decode cS_setBack 57 = .ok (.aload_n 0, 1) := by decide +kernel
theorem dS_setBack_58 : decode cS_setBack 58 = .ok (.bipush 40, 2) := by decide +kernel
theorem dS_setBack_60 : decode cS_setBack 60 = .ok (.lconst 0, 1) := by decide +kernel
theorem dS_setBack_61 : decode cS_setBack 61 = .ok (.invokevirtual 213, 3) := by decide +kernel
theorem dS_setBack_64 : decode cS_setBack 64 = .ok (.aload_n 0, 1) := by decide +kernel
theorem dS_setBack_65 : decode cS_setBack 65 = .ok (.invokevirtual 216, 3) := by decide +kernel
theorem dS_setBack_68 : decode cS_setBack 68 = .ok (.return_, 1) := by decide +kernel
theorem dS_word_0 : decode cS_word 0 = .ok (.iload_n 1, 1) := by decide +kernel
theorem dS_word_1 : decode cS_word 1 = .ok (.i2l, 1) := by decide +kernel
theorem dS_word_2 : decode cS_word 2 = .ok (.invokestatic 163, 3) := by decide +kernel
theorem dS_word_5 : decode cS_word 5 = .ok (.ifCond .ne 13, 3) := by decide +kernel
theorem dS_word_8 : decode cS_word 8 = .ok (.new 118, 3) := by decide +kernel
theorem dS_word_11 : decode cS_word 11 = .ok (.dup, 1) := by decide +kernel
theorem dS_word_12 : decode cS_word 12 = .ok (.ldc 166, 2) := by decide +kernel
theorem dS_word_14 : decode cS_word 14 = .ok (.invokespecial 122, 3) := by decide +kernel
theorem dS_word_17 : decode cS_word 17 = .ok (.athrow, 1) := by decide +kernel
theorem dS_word_18 : decode cS_word 18 = .ok (.iload_n 2, 1) := by decide +kernel
theorem dS_word_19 : decode cS_word 19 = .ok (.ifCond .eq 14, 3) := by decide +kernel
theorem dS_word_22 : decode cS_word 22 = .ok (.aload_n 0, 1) := by decide +kernel
theorem dS_word_23 : decode cS_word 23 = .ok (.getfield 12, 3) := by decide +kernel
theorem dS_word_26 : decode cS_word 26 = .ok (.iload_n 1, 1) := by decide +kernel
theorem dS_word_27 : decode cS_word 27 = .ok (.invokevirtual 168, 3) := by decide +kernel
theorem dS_word_30 : decode cS_word 30 = .ok (.goto 11, 3) := by decide +kernel
theorem dS_word_33 : decode cS_word 33 = .ok (.aload_n 0, 1) := by decide +kernel
theorem dS_word_34 : decode cS_word 34 = .ok (.getfield 12, 3) := by decide +kernel
theorem dS_word_37 : decode cS_word 37 = .ok (.iload_n 1, 1) := by decide +kernel
theorem dS_word_38 : decode cS_word 38 = .ok (.invokevirtual 153, 3) := by decide +kernel
theorem dS_word_41 : decode cS_word 41 = .ok (.lreturn, 1) := by decide +kernel
theorem dM_keptAt_0 : decode cM_keptAt 0 = .ok (.iload_n 1, 1) := by decide +kernel
theorem dM_keptAt_1 : decode cM_keptAt 1 = .ok (.i2l, 1) := by decide +kernel
theorem dM_keptAt_2 : decode cM_keptAt 2 = .ok (.invokestatic 32, 3) := by decide +kernel
theorem dM_keptAt_5 : decode cM_keptAt 5 = .ok (.ifCond .eq 12, 3) := by decide +kernel
theorem dM_keptAt_8 : decode cM_keptAt 8 = .ok (.aload_n 0, 1) := by decide +kernel
theorem dM_keptAt_9 : decode cM_keptAt 9 = .ok (.getfield 15, 3) := by decide +kernel
theorem dM_keptAt_12 : decode cM_keptAt 12 = .ok (.iload_n 1, 1) := by decide +kernel
theorem dM_keptAt_13 : decode cM_keptAt 13 = .ok (.laload, 1) := by decide +kernel
theorem dM_keptAt_14 : decode cM_keptAt 14 = .ok (.goto 4, 3) := by decide +kernel
theorem dM_keptAt_17 : decode cM_keptAt 17 = .ok (.lconst 0, 1) := by decide +kernel
theorem dM_keptAt_18 : decode cM_keptAt 18 = .ok (.lreturn, 1) := by decide +kernel
