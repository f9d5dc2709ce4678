theorem dR_init_0 : decode cR_init 0 = .ok (.aload_n 0, 1) := by decide +kernel
theorem dR_init_1 : decode cR_init 1 = .ok (.invokespecial 1, 3) := by decide +kernel
theorem dR_init_4 : decode cR_init 4 = .ok (.aload_n 0, 1) := by decide +kernel
theorem dR_init_5 : decode cR_init 5 = .ok (.bipush 112, 2) := by decide +kernel
theorem dR_init_7 : decode cR_init 7 = .ok (.newarray .long, 2) := by decide +kernel
theorem dR_init_9 : decode cR_init 9 = .ok (.putfield 7, 3) := by decide +kernel
theorem dR_init_12 : decode cR_init 12 = .ok (.aload_n 0, 1) := by decide +kernel
theorem dR_init_13 : decode cR_init 13 = .ok (.bipush 112, 2) := by decide +kernel
theorem dR_init_15 : decode cR_init 15 = .ok (.newarray .long, 2) := by decide +kernel
theorem dR_init_17 : decode cR_init 17 = .ok (.putfield 13, 3) := by decide +kernel
theorem dR_init_20 : decode cR_init 20 = .ok (.aload_n 0, 1) := by decide +kernel
theorem dR_init_21 : decode cR_init 21 = .ok (.sipush 448, 3) := by decide +kernel
theorem dR_init_24 : decode cR_init 24 = .ok (.newarray .long, 2) := by decide +kernel
theorem dR_init_26 : decode cR_init 26 = .ok (.putfield 16, 3) := by decide +kernel
theorem dR_init_29 : decode cR_init 29 = .ok (.aload_n 0, 1) := by decide +kernel
theorem dR_init_30 : decode cR_init 30 = .ok (.bipush 112, 2) := by decide +kernel
theorem dR_init_32 : decode cR_init 32 = .ok (.newarray .int, 2) := by decide +kernel
theorem dR_init_34 : decode cR_init 34 = .ok (.putfield 19, 3) := by decide +kernel
theorem dR_init_37 : decode cR_init 37 = .ok (.aload_n 0, 1) := by decide +kernel
theorem dR_init_38 : decode cR_init 38 = .ok (.bipush 14, 2) := by decide +kernel
theorem dR_init_40 : decode cR_init 40 = .ok (.newarray .boolean, 2) := by decide +kernel
theorem dR_init_42 : decode cR_init 42 = .ok (.putfield 23, 3) := by decide +kernel
theorem dR_init_45 : decode cR_init 45 = .ok (.aload_n 0, 1) := by decide +kernel
theorem dR_init_46 : decode cR_init 46 = .ok (.bipush 31, 2) := by decide +kernel
theorem dR_init_48 : decode cR_init 48 = .ok (.newarray .long, 2) := by decide +kernel
theorem dR_init_50 : decode cR_init 50 = .ok (.putfield 27, 3) := by decide +kernel
theorem dR_init_53 : decode cR_init 53 = .ok (.aload_n 0, 1) := by decide +kernel
theorem dR_init_54 : decode cR_init 54 = .ok (.iconst (-1), 1) := by decide +kernel
theorem dR_init_55 : decode cR_init 55 = .ok (.putfield 30, 3) := by decide +kernel
theorem dR_init_58 : decode cR_init 58 = .ok (.aload_n 0, 1) := by decide +kernel
theorem dR_init_59 : decode cR_init 59 = .ok (.iconst 2, 1) := by decide +kernel
theorem dR_init_60 : decode cR_init 60 = .ok (.newarray .boolean, 2) := by decide +kernel
theorem dR_init_62 : decode cR_init 62 = .ok (.putfield 34, 3) := by decide +kernel
theorem dR_init_65 : decode cR_init 65 = .ok (.aload_n 0, 1) := by decide +kernel
theorem dR_init_66 : decode cR_init 66 = .ok (.bipush 8, 2) := by decide +kernel
theorem dR_init_68 : decode cR_init 68 = .ok (.newarray .long, 2) := by decide +kernel
theorem dR_init_70 : decode cR_init 70 = .ok (.putfield 37, 3) := by decide +kernel
theorem dR_init_73 : decode cR_init 73 = .ok (.aload_n 0, 1) := by decide +kernel
theorem dR_init_74 : decode cR_init 74 = .ok (.iconst 2, 1) := by decide +kernel
theorem dR_init_75 : decode cR_init 75 = .ok (.newarray .int, 2) := by decide +kernel
theorem dR_init_77 : decode cR_init 77 = .ok (.putfield 40, 3) := by decide +kernel
theorem dR_init_80 : decode cR_init 80 = .ok (.aload_n 0, 1) := by decide +kernel
theorem dR_init_81 : decode cR_init 81 = .ok (.bipush 16, 2) := by decide +kernel
theorem dR_init_83 : decode cR_init 83 = .ok (.newarray .long, 2) := by decide +kernel
theorem dR_init_85 : decode cR_init 85 = .ok (.putfield 43, 3) := by decide +kernel
theorem dR_init_88 : decode cR_init 88 = .ok (.aload_n 0, 1) := by decide +kernel
theorem dR_init_89 : decode cR_init 89 = .ok (.bipush 16, 2) := by decide +kernel
theorem dR_init_91 : decode cR_init 91 = .ok (.newarray .long, 2) := by decide +kernel
theorem dR_init_93 : decode cR_init 93 = .ok (.putfield 46, 3) := by decide +kernel
theorem dR_init_96 : decode cR_init 96 = .ok (.return_, 1) := by decide +kernel
theorem dR_thrown_0 : decode cR_thrown 0 = .ok (.aload_n 0, 1) := by decide +kernel
theorem dR_thrown_1 : decode cR_thrown 1 = .ok (.getfield 49, 3) := by decide +kernel
theorem dR_thrown_4 : decode cR_thrown 4 = .ok (.ireturn, 1) := by decide +kernel
theorem dR_begin_0 : decode cR_begin 0 = .ok (.aload_n 0, 1) := by decide +kernel
theorem dR_begin_1 : decode cR_begin 1 = .ok (.aload_n 0, 1) := by decide +kernel
theorem dR_begin_2 : decode cR_begin 2 = .ok (.getfield 53, 3) := by decide +kernel
theorem dR_begin_5 : decode cR_begin 5 = .ok (.ifCond .ne 10, 3) := by decide +kernel
theorem dR_begin_8 : decode cR_begin 8 = .ok (.aload_n 0, 1) := by decide +kernel
theorem dR_begin_9 : decode cR_begin 9 = .ok (.getfield 57, 3) := by decide +kernel
theorem dR_begin_12 : decode cR_begin 12 = .ok (.ifCond .eq 7, 3) := by decide +kernel
theorem dR_begin_15 : decode cR_begin 15 = .ok (.iconst 1, 1) := by decide +kernel
theorem dR_begin_16 : decode cR_begin 16 = .ok (.goto 4, 3) := by decide +kernel
theorem dR_begin_19 : decode cR_begin 19 = .ok (.iconst 0, 1) := by decide +kernel
theorem dR_begin_20 : decode cR_begin 20 = .ok (.putfield 49, 3) := by decide +kernel
theorem dR_begin_23 : decode cR_begin 23 = .ok (.aload_n 0, 1) := by decide +kernel
theorem dR_begin_24 : decode cR_begin 24 = .ok (.getfield 49, 3) := by decide +kernel
theorem dR_begin_27 : decode cR_begin 27 = .ok (.ifCond .ne 12, 3) := by decide +kernel
theorem dR_begin_30 : decode cR_begin 30 = .ok (.aload_n 0, 1) := by decide +kernel
theorem dR_begin_31 : decode cR_begin 31 = .ok (.invokevirtual 110, 3) := by decide +kernel
theorem dR_begin_34 : decode cR_begin 34 = .ok (.aload_n 0, 1) := by decide +kernel
theorem dR_begin_35 : decode cR_begin 35 = .ok (.iconst 1, 1) := by decide +kernel
theorem dR_begin_36 : decode cR_begin 36 = .ok (.putfield 57, 3) := by decide +kernel
theorem dR_begin_39 : decode cR_begin 39 = .ok (.return_, 1) := by decide +kernel
theorem dR_take_0 : decode cR_take 0 = .ok (.iconst 0, 1) := by decide +kernel
theorem dR_take_1 : decode cR_take 1 = .ok (.istore_n 1, 1) := by decide +kernel
theorem dR_take_2 : decode cR_take 2 = .ok (.iload_n 1, 1) := by decide +kernel
theorem dR_take_3 : decode cR_take 3 = .ok (.bipush 31, 2) := by decide +kernel
theorem dR_take_5 : decode cR_take 5 = .ok (.if_icmp .ge 21, 3) := by decide +kernel
theorem dR_take_8 : decode cR_take 8 = .ok (.aload_n 0, 1) := by decide +kernel
theorem dR_take_9 : decode cR_take 9 = .ok (.getfield 27, 3) := by decide +kernel
theorem dR_take_12 : decode cR_take 12 = .ok (.iload_n 1, 1) := by decide +kernel
theorem dR_take_13 : decode cR_take 13 = .ok (.aload_n 0, 1) := by decide +kernel
theorem dR_take_14 : decode cR_take 14 = .ok (.getfield 7, 3) := by decide +kernel
theorem dR_take_17 : decode cR_take 17 = .ok (.iload_n 1, 1) := by decide +kernel
theorem dR_take_18 : decode cR_take 18 = .ok (.laload, 1) := by decide +kernel
theorem dR_take_19 : decode cR_take 19 = .ok (.lastore, 1) := by decide +kernel
theorem dR_take_20 : decode cR_take 20 = .ok (.iinc 1 1, 3) := by decide +kernel
theorem dR_take_23 : decode cR_take 23 = .ok (.goto (-21), 3) := by decide +kernel
theorem dR_take_26 : decode cR_take 26 = .ok (.return_, 1) := by decide +kernel
theorem dR_commit_0 : decode cR_commit 0 = .ok (.aload_n 0, 1) := by decide +kernel
theorem dR_commit_1 : decode cR_commit 1 = .ok (.aload_n 0, 1) := by decide +kernel
theorem dR_commit_2 : decode cR_commit 2 = .ok (.getfield 53, 3) := by decide +kernel
theorem dR_commit_5 : decode cR_commit 5 = .ok (.ifCond .ne 10, 3) := by decide +kernel
theorem dR_commit_8 : decode cR_commit 8 = .ok (.aload_n 0, 1) := by decide +kernel
theorem dR_commit_9 : decode cR_commit 9 = .ok (.getfield 57, 3) := by decide +kernel
theorem dR_commit_12 : decode cR_commit 12 = .ok (.ifCond .ne 7, 3) := by decide +kernel
theorem dR_commit_15 : decode cR_commit 15 = .ok (.iconst 1, 1) := by decide +kernel
theorem dR_commit_16 : decode cR_commit 16 = .ok (.goto 4, 3) := by decide +kernel
theorem dR_commit_19 : decode cR_commit 19 = .ok (.iconst 0, 1) := by decide +kernel
theorem dR_commit_20 : decode cR_commit 20 = .ok (.putfield 49, 3) := by decide +kernel
theorem dR_commit_23 : decode cR_commit 23 = .ok (.aload_n 0, 1) := by decide +kernel
theorem dR_commit_24 : decode cR_commit 24 = .ok (.getfield 49, 3) := by decide +kernel
theorem dR_commit_27 : decode cR_commit 27 = .ok (.ifCond .le 7, 3) := by decide +kernel
theorem dR_commit_30 : decode cR_commit 30 = .ok (.iconst 0, 1) := by decide +kernel
theorem dR_commit_31 : decode cR_commit 31 = .ok (.goto 7, 3) := by decide +kernel
theorem dR_commit_34 : decode cR_commit 34 = .ok (.aload_n 0, 1) := by decide +kernel
theorem dR_commit_35 : decode cR_commit 35 = .ok (.invokevirtual 107, 3) := by decide +kernel
theorem dR_commit_38 : decode cR_commit 38 = .ok (.ireturn, 1) := by decide +kernel
theorem dR_commitAll_0 : decode cR_commitAll 0 = .ok (.aload_n 0, 1) := by decide +kernel
theorem dR_commitAll_1 : decode cR_commitAll 1 = .ok (.invokevirtual 96, 3) := by decide +kernel
theorem dR_commitAll_4 : decode cR_commitAll 4 = .ok (.istore_n 1, 1) := by decide +kernel
theorem dR_commitAll_5 : decode cR_commitAll 5 = .ok (.aload_n 0, 1) := by decide +kernel
theorem dR_commitAll_6 : decode cR_commitAll 6 = .ok (.iconst 0, 1) := by decide +kernel
theorem dR_commitAll_7 : decode cR_commitAll 7 = .ok (.putfield 57, 3) := by decide +kernel
theorem dR_commitAll_10 : decode cR_commitAll 10 = .ok (.aload_n 0, 1) := by decide +kernel
theorem dR_commitAll_11 : decode cR_commitAll 11 = .ok (.iconst 0, 1) := by decide +kernel
theorem dR_commitAll_12 : decode cR_commitAll 12 = .ok (.putfield 63, 3) := by decide +kernel
theorem dR_commitAll_15 : decode cR_commitAll 15 = .ok (.iconst 0, 1) := by decide +kernel
theorem dR_commitAll_16 : decode cR_commitAll 16 = .ok (.istore_n 2, 1) := by decide +kernel
theorem dR_commitAll_17 : decode cR_commitAll 17 = .ok (.iload_n 1, 1) := by decide +kernel
theorem dR_commitAll_18 : decode cR_commitAll 18 = .ok (.ifCond .ne 5, 3) := by decide +kernel
theorem dR_commitAll_21 : decode cR_commitAll 21 = .ok (.iconst 0, 1) := by decide +kernel
theorem dR_commitAll_22 : decode cR_commitAll 22 = .ok (.ireturn, 1) := by decide +kernel
theorem dR_commitAll_23 : decode cR_commitAll 23 = .ok (.iconst 0, 1) := by decide +kernel
theorem dR_commitAll_24 : decode cR_commitAll 24 = .ok (.istore_n 3, 1) := by decide +kernel
theorem dR_commitAll_25 : decode cR_commitAll 25 = .ok (.iload_n 3, 1) := by decide +kernel
theorem dR_commitAll_26 : decode cR_commitAll 26 = .ok (.bipush 31, 2) := by decide +kernel
theorem dR_commitAll_28 : decode cR_commitAll 28 = .ok (.if_icmp .ge 49, 3) := by decide +kernel
theorem dR_commitAll_31 : decode cR_commitAll 31 = .ok (.iload_n 1, 1) := by decide +kernel
theorem dR_commitAll_32 : decode cR_commitAll 32 = .ok (.iload_n 3, 1) := by decide +kernel
theorem dR_commitAll_33 : decode cR_commitAll 33 = .ok (.ishr, 1) := by decide +kernel
theorem dR_commitAll_34 : decode cR_commitAll 34 = .ok (.iconst 1, 1) := by decide +kernel
theorem dR_commitAll_35 : decode cR_commitAll 35 = .ok (.iand, 1) := by decide +kernel
theorem dR_commitAll_36 : decode cR_commitAll 36 = .ok (.iconst 1, 1) := by decide +kernel
theorem dR_commitAll_37 : decode cR_commitAll 37 = .ok (.if_icmp .ne 34, 3) := by decide +kernel
theorem dR_commitAll_40 : decode cR_commitAll 40 = .ok (.aload_n 0, 1) := by decide +kernel
theorem dR_commitAll_41 : decode cR_commitAll 41 = .ok (.bipush 48, 2) := by decide +kernel
theorem dR_commitAll_43 : decode cR_commitAll 43 = .ok (.iconst 2, 1) := by decide +kernel
theorem dR_commitAll_44 : decode cR_commitAll 44 = .ok (.iload_n 2, 1) := by decide +kernel
theorem dR_commitAll_45 : decode cR_commitAll 45 = .ok (.imul, 1) := by decide +kernel
theorem dR_commitAll_46 : decode cR_commitAll 46 = .ok (.iadd, 1) := by decide +kernel
theorem dR_commitAll_47 : decode cR_commitAll 47 = .ok (.iload_n 3, 1) := by decide +kernel
theorem dR_commitAll_48 : decode cR_commitAll 48 = .ok (.i2l, 1) := by decide +kernel
theorem dR_commitAll_49 : decode cR_commitAll 49 = .ok (.invokevirtual 86, 3) := by decide +kernel
theorem dR_commitAll_52 : decode cR_commitAll 52 = .ok (.aload_n 0, 1) := by decide +kernel
theorem dR_commitAll_53 : decode cR_commitAll 53 = .ok (.bipush 49, 2) := by decide +kernel
theorem dR_commitAll_55 : decode cR_commitAll 55 = .ok (.iconst 2, 1) := by decide +kernel
theorem dR_commitAll_56 : decode cR_commitAll 56 = .ok (.iload_n 2, 1) := by decide +kernel
theorem dR_commitAll_57 : decode cR_commitAll 57 = .ok (.imul, 1) := by decide +kernel
theorem dR_commitAll_58 : decode cR_commitAll 58 = .ok (.iadd, 1) := by decide +kernel
theorem dR_commitAll_59 : decode cR_commitAll 59 = .ok (.aload_n 0, 1) := by decide +kernel
theorem dR_commitAll_60 : decode cR_commitAll 60 = .ok (.getfield 7, 3) := by decide +kernel
theorem dR_commitAll_63 : decode cR_commitAll 63 = .ok (.iload_n 3, 1) := by decide +kernel
theorem dR_commitAll_64 : decode cR_commitAll 64 = .ok (.laload, 1) := by decide +kernel
theorem dR_commitAll_65 : decode cR_commitAll 65 = .ok (.invokevirtual 86, 3) := by decide +kernel
theorem dR_commitAll_68 : decode cR_commitAll 68 = .ok (.iinc 2 1, 3) := by decide +kernel
theorem dR_commitAll_71 : decode cR_commitAll 71 = .ok (.iinc 3 1, 3) := by decide +kernel
theorem dR_commitAll_74 : decode cR_commitAll 74 = .ok (.goto (-49), 3) := by decide +kernel
theorem dR_commitAll_77 : decode cR_commitAll 77 = .ok (.bipush 6, 2) := by decide +kernel
theorem dR_commitAll_79 : decode cR_commitAll 79 = .ok (.istore_n 3, 1) := by decide +kernel
theorem dR_commitAll_80 : decode cR_commitAll 80 = .ok (.iload_n 3, 1) := by decide +kernel
theorem dR_commitAll_81 : decode cR_commitAll 81 = .ok (.bipush 48, 2) := by decide +kernel
theorem dR_commitAll_83 : decode cR_commitAll 83 = .ok (.iconst 2, 1) := by decide +kernel
theorem dR_commitAll_84 : decode cR_commitAll 84 = .ok (.iload_n 2, 1) := by decide +kernel
theorem dR_commitAll_85 : decode cR_commitAll 85 = .ok (.imul, 1) := by decide +kernel
theorem dR_commitAll_86 : decode cR_commitAll 86 = .ok (.iadd, 1) := by decide +kernel
theorem dR_commitAll_87 : decode cR_commitAll 87 = .ok (.iconst 1, 1) := by decide +kernel
theorem dR_commitAll_88 : decode cR_commitAll 88 = .ok (.isub, 1) := by decide +kernel
theorem dR_commitAll_89 : decode cR_commitAll 89 = .ok (.bipush 8, 2) := by decide +kernel
theorem dR_commitAll_91 : decode cR_commitAll 91 = .ok (.idiv, 1) := by decide +kernel
theorem dR_commitAll_92 : decode cR_commitAll 92 = .ok (.if_icmp .gt 14, 3) := by decide +kernel
theorem dR_commitAll_95 : decode cR_commitAll 95 = .ok (.aload_n 0, 1) := by decide +kernel
theorem dR_commitAll_96 : decode cR_commitAll 96 = .ok (.iload_n 3, 1) := by decide +kernel
theorem dR_commitAll_97 : decode cR_commitAll 97 = .ok (.invokevirtual 90, 3) := by decide +kernel
theorem dR_commitAll_100 : decode cR_commitAll 100 = .ok (.iinc 3 1, 3) := by decide +kernel
theorem dR_commitAll_103 : decode cR_commitAll 103 = .ok (.goto (-23), 3) := by decide +kernel
theorem dR_commitAll_106 : decode cR_commitAll 106 = .ok (.aload_n 0, 1) := by decide +kernel
theorem dR_commitAll_107 : decode cR_commitAll 107 = .ok (.invokevirtual 93, 3) := by decide +kernel
theorem dR_commitAll_110 : decode cR_commitAll 110 = .ok (.aload_n 0, 1) := by decide +kernel
theorem dR_commitAll_111 : decode cR_commitAll 111 = .ok (.iload_n 2, 1) := by decide +kernel
theorem dR_commitAll_112 : decode cR_commitAll 112 = .ok (.i2l, 1) := by decide +kernel
theorem dR_commitAll_113 : decode cR_commitAll 113 = .ok (.invokevirtual 100, 3) := by decide +kernel
theorem dR_commitAll_116 : decode cR_commitAll 116 = .ok (.iconst 0, 1) := by decide +kernel
theorem dR_commitAll_117 : decode cR_commitAll 117 = .ok (.istore_n 3, 1) := by decide +kernel
theorem dR_commitAll_118 : decode cR_commitAll 118 = .ok (.iload_n 3, 1) := by decide +kernel
theorem dR_commitAll_119 : decode cR_commitAll 119 = .ok (.bipush 31, 2) := by decide +kernel
theorem dR_commitAll_121 : decode cR_commitAll 121 = .ok (.if_icmp .ge 29, 3) := by decide +kernel
theorem dR_commitAll_124 : decode cR_commitAll 124 = .ok (.iload_n 1, 1) := by decide +kernel
theorem dR_commitAll_125 : decode cR_commitAll 125 = .ok (.iload_n 3, 1) := by decide +kernel
theorem dR_commitAll_126 : decode cR_commitAll 126 = .ok (.ishr, 1) := by decide +kernel
theorem dR_commitAll_127 : decode cR_commitAll 127 = .ok (.iconst 1, 1) := by decide +kernel
theorem dR_commitAll_128 : decode cR_commitAll 128 = .ok (.iand, 1) := by decide +kernel
theorem dR_commitAll_129 : decode cR_commitAll 129 = .ok (.iconst 1, 1) := by decide +kernel
theorem dR_commitAll_130 : decode cR_commitAll 130 = .ok (.if_icmp .ne 14, 3) := by decide +kernel
theorem dR_commitAll_133 : decode cR_commitAll 133 = .ok (.aload_n 0, 1) := by decide +kernel
theorem dR_commitAll_134 : decode cR_commitAll 134 = .ok (.iload_n 3, 1) := by decide +kernel
theorem dR_commitAll_135 : decode cR_commitAll 135 = .ok (.aload_n 0, 1) := by decide +kernel
theorem dR_commitAll_136 : decode cR_commitAll 136 = .ok (.getfield 27, 3) := by decide +kernel
theorem dR_commitAll_139 : decode cR_commitAll 139 = .ok (.iload_n 3, 1) := by decide +kernel
theorem dR_commitAll_140 : decode cR_commitAll 140 = .ok (.laload, 1) := by decide +kernel
theorem dR_commitAll_141 : decode cR_commitAll 141 = .ok (.invokevirtual 86, 3) := by decide +kernel
theorem dR_commitAll_144 : decode cR_commitAll 144 = .ok (.iinc 3 1, 3) := by decide +kernel
theorem dR_commitAll_147 : decode cR_commitAll 147 = .ok (.goto (-29), 3) := by decide +kernel
theorem dR_commitAll_150 : decode cR_commitAll 150 = .ok (.aload_n 0, 1) := by decide +kernel
theorem dR_commitAll_151 : decode cR_commitAll 151 = .ok (.iload_n 1, 1) := by decide +kernel
theorem dR_commitAll_152 : decode cR_commitAll 152 = .ok (.invokevirtual 104, 3) := by decide +kernel
theorem dR_commitAll_155 : decode cR_commitAll 155 = .ok (.aload_n 0, 1) := by decide +kernel
theorem dR_commitAll_156 : decode cR_commitAll 156 = .ok (.lconst 0, 1) := by decide +kernel
theorem dR_commitAll_157 : decode cR_commitAll 157 = .ok (.invokevirtual 100, 3) := by decide +kernel
theorem dR_commitAll_160 : decode cR_commitAll 160 = .ok (.aload_n 0, 1) := by decide +kernel
theorem dR_commitAll_161 : decode cR_commitAll 161 = .ok (.aload_n 0, 1) := by decide +kernel
theorem dR_commitAll_162 : decode cR_commitAll 162 = .ok (.getfield 63, 3) := by decide +kernel
theorem dR_commitAll_165 : decode cR_commitAll 165 = .ok (.ifCond .eq 7, 3) := by decide +kernel
theorem dR_commitAll_168 : decode cR_commitAll 168 = .ok (.iconst 1, 1) := by decide +kernel
theorem dR_commitAll_169 : decode cR_commitAll 169 = .ok (.goto 4, 3) := by decide +kernel
theorem dR_commitAll_172 : decode cR_commitAll 172 = .ok (.iconst 0, 1) := by decide +kernel
theorem dR_commitAll_173 : decode cR_commitAll 173 = .ok (.putfield 49, 3) := by decide +kernel
theorem dR_commitAll_176 : decode cR_commitAll 176 = .ok (.aload_n 0, 1) := by decide +kernel
theorem dR_commitAll_177 : decode cR_commitAll 177 = .ok (.getfield 63, 3) := by decide +kernel
theorem dR_commitAll_180 : decode cR_commitAll 180 = .ok (.ifCond .eq 7, 3) := by decide +kernel
theorem dR_commitAll_183 : decode cR_commitAll 183 = .ok (.iconst 0, 1) := by decide +kernel
theorem dR_commitAll_184 : decode cR_commitAll 184 = .ok (.goto 4, 3) := by decide +kernel
theorem dR_commitAll_187 : decode cR_commitAll 187 = .ok (.iload_n 2, 1) := by decide +kernel
theorem dR_commitAll_188 : decode cR_commitAll 188 = .ok (.ireturn, 1) := by decide +kernel
theorem dR_changed_0 : decode cR_changed 0 = .ok (.iconst 0, 1) := by decide +kernel
theorem dR_changed_1 : decode cR_changed 1 = .ok (.istore_n 1, 1) := by decide +kernel
theorem dR_changed_2 : decode cR_changed 2 = .ok (.iconst 0, 1) := by decide +kernel
theorem dR_changed_3 : decode cR_changed 3 = .ok (.istore_n 2, 1) := by decide +kernel
theorem dR_changed_4 : decode cR_changed 4 = .ok (.iload_n 2, 1) := by decide +kernel
theorem dR_changed_5 : decode cR_changed 5 = .ok (.bipush 31, 2) := by decide +kernel
theorem dR_changed_7 : decode cR_changed 7 = .ok (.if_icmp .ge 35, 3) := by decide +kernel
theorem dR_changed_10 : decode cR_changed 10 = .ok (.aload_n 0, 1) := by decide +kernel
theorem dR_changed_11 : decode cR_changed 11 = .ok (.getfield 27, 3) := by decide +kernel
theorem dR_changed_14 : decode cR_changed 14 = .ok (.iload_n 2, 1) := by decide +kernel
theorem dR_changed_15 : decode cR_changed 15 = .ok (.laload, 1) := by decide +kernel
theorem dR_changed_16 : decode cR_changed 16 = .ok (.aload_n 0, 1) := by decide +kernel
theorem dR_changed_17 : decode cR_changed 17 = .ok (.getfield 7, 3) := by decide +kernel
theorem dR_changed_20 : decode cR_changed 20 = .ok (.iload_n 2, 1) := by decide +kernel
theorem dR_changed_21 : decode cR_changed 21 = .ok (.laload, 1) := by decide +kernel
theorem dR_changed_22 : decode cR_changed 22 = .ok (.lcmp, 1) := by decide +kernel
theorem dR_changed_23 : decode cR_changed 23 = .ok (.ifCond .eq 11, 3) := by decide +kernel
theorem dR_changed_26 : decode cR_changed 26 = .ok (.iload_n 1, 1) := by decide +kernel
theorem dR_changed_27 : decode cR_changed 27 = .ok (.iconst 1, 1) := by decide +kernel
theorem dR_changed_28 : decode cR_changed 28 = .ok (.iload_n 2, 1) := by decide +kernel
theorem dR_changed_29 : decode cR_changed 29 = .ok (.ishl, 1) := by decide +kernel
theorem dR_changed_30 : decode cR_changed 30 = .ok (.ior, 1) := by decide +kernel
theorem dR_changed_31 : decode cR_changed 31 = .ok (.goto 4, 3) := by decide +kernel
theorem dR_changed_34 : decode cR_changed 34 = .ok (.iload_n 1, 1) := by decide +kernel
theorem dR_changed_35 : decode cR_changed 35 = .ok (.istore_n 1, 1) := by decide +kernel
theorem dR_changed_36 : decode cR_changed 36 = .ok (.iinc 2 1, 3) := by decide +kernel
theorem dR_changed_39 : decode cR_changed 39 = .ok (.goto (-35), 3) := by decide +kernel
theorem dR_changed_42 : decode cR_changed 42 = .ok (.iload_n 1, 1) := by decide +kernel
theorem dR_changed_43 : decode cR_changed 43 = .ok (.ireturn, 1) := by decide +kernel
theorem dR_store_0 : decode cR_store 0 = .ok (.aload_n 0, 1) := by decide +kernel
theorem dR_store_1 : decode cR_store 1 = .ok (.invokevirtual 73, 3) := by decide +kernel
theorem dR_store_4 : decode cR_store 4 = .ok (.ifCond .eq 46, 3) := by decide +kernel
theorem dR_store_7 : decode cR_store 7 = .ok (.aload_n 0, 1) := by decide +kernel
theorem dR_store_8 : decode cR_store 8 = .ok (.getfield 7, 3) := by decide +kernel
theorem dR_store_11 : decode cR_store 11 = .ok (.iload_n 1, 1) := by decide +kernel
theorem dR_store_12 : decode cR_store 12 = .ok (.lload_n 2, 1) := by decide +kernel
theorem dR_store_13 : decode cR_store 13 = .ok (.lastore, 1) := by decide +kernel
theorem dR_store_14 : decode cR_store 14 = .ok (.aload_n 0, 1) := by decide +kernel
theorem dR_store_15 : decode cR_store 15 = .ok (.getfield 16, 3) := by decide +kernel
theorem dR_store_18 : decode cR_store 18 = .ok (.iconst 4, 1) := by decide +kernel
theorem dR_store_19 : decode cR_store 19 = .ok (.iload_n 1, 1) := by decide +kernel
theorem dR_store_20 : decode cR_store 20 = .ok (.imul, 1) := by decide +kernel
theorem dR_store_21 : decode cR_store 21 = .ok (.aload_n 0, 1) := by decide +kernel
theorem dR_store_22 : decode cR_store 22 = .ok (.getfield 19, 3) := by decide +kernel
theorem dR_store_25 : decode cR_store 25 = .ok (.iload_n 1, 1) := by decide +kernel
theorem dR_store_26 : decode cR_store 26 = .ok (.iaload, 1) := by decide +kernel
theorem dR_store_27 : decode cR_store 27 = .ok (.iadd, 1) := by decide +kernel
theorem dR_store_28 : decode cR_store 28 = .ok (.lload_n 2, 1) := by decide +kernel
theorem dR_store_29 : decode cR_store 29 = .ok (.lastore, 1) := by decide +kernel
theorem dR_store_30 : decode cR_store 30 = .ok (.aload_n 0, 1) := by decide +kernel
theorem dR_store_31 : decode cR_store 31 = .ok (.getfield 19, 3) := by decide +kernel
theorem dR_store_34 : decode cR_store 34 = .ok (.iload_n 1, 1) := by decide +kernel
theorem dR_store_35 : decode cR_store 35 = .ok (.dup2, 1) := by decide +kernel
theorem dR_store_36 : decode cR_store 36 = .ok (.iaload, 1) := by decide +kernel
theorem dR_store_37 : decode cR_store 37 = .ok (.iconst 1, 1) := by decide +kernel
theorem dR_store_38 : decode cR_store 38 = .ok (.iadd, 1) := by decide +kernel
theorem dR_store_39 : decode cR_store 39 = .ok (.iastore, 1) := by decide +kernel
theorem dR_store_40 : decode cR_store 40 = .ok (.aload_n 0, 1) := by decide +kernel
theorem dR_store_41 : decode cR_store 41 = .ok (.dup, 1) := by decide +kernel
theorem dR_store_42 : decode cR_store 42 = .ok (.getfield 77, 3) := by decide +kernel
theorem dR_store_45 : decode cR_store 45 = .ok (.iconst 1, 1) := by decide +kernel
theorem dR_store_46 : decode cR_store 46 = .ok (.iadd, 1) := by decide +kernel
theorem dR_store_47 : decode cR_store 47 = .ok (.putfield 77, 3) := by decide +kernel
theorem dR_store_50 : decode cR_store 50 = .ok (.return_, 1) := by decide +kernel
theorem dR_goes_0 : decode cR_goes 0 = .ok (.aload_n 0, 1) := by decide +kernel
theorem dR_goes_1 : decode cR_goes 1 = .ok (.getfield 63, 3) := by decide +kernel
theorem dR_goes_4 : decode cR_goes 4 = .ok (.ifCond .eq 5, 3) := by decide +kernel
theorem dR_goes_7 : decode cR_goes 7 = .ok (.iconst 0, 1) := by decide +kernel
theorem dR_goes_8 : decode cR_goes 8 = .ok (.ireturn, 1) := by decide +kernel
theorem dR_goes_9 : decode cR_goes 9 = .ok (.aload_n 0, 1) := by decide +kernel
theorem dR_goes_10 : decode cR_goes 10 = .ok (.getfield 30, 3) := by decide +kernel
theorem dR_goes_13 : decode cR_goes 13 = .ok (.ifCond .ne 23, 3) := by decide +kernel
theorem dR_goes_16 : decode cR_goes 16 = .ok (.aload_n 0, 1) := by decide +kernel
theorem dR_goes_17 : decode cR_goes 17 = .ok (.iconst 1, 1) := by decide +kernel
theorem dR_goes_18 : decode cR_goes 18 = .ok (.putfield 63, 3) := by decide +kernel
theorem dR_goes_21 : decode cR_goes 21 = .ok (.aload_n 0, 1) := by decide +kernel
theorem dR_goes_22 : decode cR_goes 22 = .ok (.iconst (-1), 1) := by decide +kernel
theorem dR_goes_23 : decode cR_goes 23 = .ok (.putfield 30, 3) := by decide +kernel
theorem dR_goes_26 : decode cR_goes 26 = .ok (.aload_n 0, 1) := by decide +kernel
theorem dR_goes_27 : decode cR_goes 27 = .ok (.aload_n 0, 1) := by decide +kernel
theorem dR_goes_28 : decode cR_goes 28 = .ok (.getfield 66, 3) := by decide +kernel
theorem dR_goes_31 : decode cR_goes 31 = .ok (.invokevirtual 69, 3) := by decide +kernel
theorem dR_goes_34 : decode cR_goes 34 = .ok (.iconst 0, 1) := by decide +kernel
theorem dR_goes_35 : decode cR_goes 35 = .ok (.ireturn, 1) := by decide +kernel
theorem dR_goes_36 : decode cR_goes 36 = .ok (.aload_n 0, 1) := by decide +kernel
theorem dR_goes_37 : decode cR_goes 37 = .ok (.dup, 1) := by decide +kernel
theorem dR_goes_38 : decode cR_goes 38 = .ok (.getfield 30, 3) := by decide +kernel
theorem dR_goes_41 : decode cR_goes 41 = .ok (.aload_n 0, 1) := by decide +kernel
theorem dR_goes_42 : decode cR_goes 42 = .ok (.getfield 30, 3) := by decide +kernel
theorem dR_goes_45 : decode cR_goes 45 = .ok (.ifCond .le 7, 3) := by decide +kernel
theorem dR_goes_48 : decode cR_goes 48 = .ok (.iconst 1, 1) := by decide +kernel
theorem dR_goes_49 : decode cR_goes 49 = .ok (.goto 4, 3) := by decide +kernel
theorem dR_goes_52 : decode cR_goes 52 = .ok (.iconst 0, 1) := by decide +kernel
theorem dR_goes_53 : decode cR_goes 53 = .ok (.isub, 1) := by decide +kernel
theorem dR_goes_54 : decode cR_goes 54 = .ok (.putfield 30, 3) := by decide +kernel
theorem dR_goes_57 : decode cR_goes 57 = .ok (.iconst 1, 1) := by decide +kernel
theorem dR_goes_58 : decode cR_goes 58 = .ok (.ireturn, 1) := by decide +kernel
theorem dR_crashNow_0 : decode cR_crashNow 0 = .ok (.iload_n 1, 1) := by decide +kernel
theorem dR_crashNow_1 : decode cR_crashNow 1 = .ok (.istore_n 2, 1) := by decide +kernel
theorem dR_crashNow_2 : decode cR_crashNow 2 = .ok (.iconst 0, 1) := by decide +kernel
theorem dR_crashNow_3 : decode cR_crashNow 3 = .ok (.istore_n 3, 1) := by decide +kernel
theorem dR_crashNow_4 : decode cR_crashNow 4 = .ok (.iload_n 3, 1) := by decide +kernel
theorem dR_crashNow_5 : decode cR_crashNow 5 = .ok (.bipush 112, 2) := by decide +kernel
theorem dR_crashNow_7 : decode cR_crashNow 7 = .ok (.if_icmp .ge 103, 3) := by decide +kernel
theorem dR_crashNow_10 : decode cR_crashNow 10 = .ok (.aload_n 0, 1) := by decide +kernel
theorem dR_crashNow_11 : decode cR_crashNow 11 = .ok (.getfield 19, 3) := by decide +kernel
theorem dR_crashNow_14 : decode cR_crashNow 14 = .ok (.iload_n 3, 1) := by decide +kernel
theorem dR_crashNow_15 : decode cR_crashNow 15 = .ok (.iaload, 1) := by decide +kernel
theorem dR_crashNow_16 : decode cR_crashNow 16 = .ok (.ifCond .le 69, 3) := by decide +kernel
theorem dR_crashNow_19 : decode cR_crashNow 19 = .ok (.iload_n 2, 1) := by decide +kernel
theorem dR_crashNow_20 : decode cR_crashNow 20 = .ok (.ldc 52, 2) := by decide +kernel
theorem dR_crashNow_22 : decode cR_crashNow 22 = .ok (.imul, 1) := by decide +kernel
theorem dR_crashNow_23 : decode cR_crashNow 23 = .ok (.sipush 12345, 3) := by decide +kernel
theorem dR_crashNow_26 : decode cR_crashNow 26 = .ok (.iadd, 1) := by decide +kernel
theorem dR_crashNow_27 : decode cR_crashNow 27 = .ok (.istore_n 2, 1) := by decide +kernel
theorem dR_crashNow_28 : decode cR_crashNow 28 = .ok (.iload_n 2, 1) := by decide +kernel
theorem dR_crashNow_29 : decode cR_crashNow 29 = .ok (.bipush 16, 2) := by decide +kernel
theorem dR_crashNow_31 : decode cR_crashNow 31 = .ok (.iushr, 1) := by decide +kernel
theorem dR_crashNow_32 : decode cR_crashNow 32 = .ok (.aload_n 0, 1) := by decide +kernel
theorem dR_crashNow_33 : decode cR_crashNow 33 = .ok (.getfield 19, 3) := by decide +kernel
theorem dR_crashNow_36 : decode cR_crashNow 36 = .ok (.iload_n 3, 1) := by decide +kernel
theorem dR_crashNow_37 : decode cR_crashNow 37 = .ok (.iaload, 1) := by decide +kernel
theorem dR_crashNow_38 : decode cR_crashNow 38 = .ok (.iconst 1, 1) := by decide +kernel
theorem dR_crashNow_39 : decode cR_crashNow 39 = .ok (.iadd, 1) := by decide +kernel
theorem dR_crashNow_40 : decode cR_crashNow 40 = .ok (.irem, 1) := by decide +kernel
theorem dR_crashNow_41 : decode cR_crashNow 41 = .ok (.istore 4, 2) := by decide +kernel
theorem dR_crashNow_43 : decode cR_crashNow 43 = .ok (.aload_n 0, 1) := by decide +kernel
theorem dR_crashNow_44 : decode cR_crashNow 44 = .ok (.getfield 13, 3) := by decide +kernel
theorem dR_crashNow_47 : decode cR_crashNow 47 = .ok (.iload_n 3, 1) := by decide +kernel
theorem dR_crashNow_48 : decode cR_crashNow 48 = .ok (.iload 4, 2) := by decide +kernel
theorem dR_crashNow_50 : decode cR_crashNow 50 = .ok (.ifCond .ne 12, 3) := by decide +kernel
theorem dR_crashNow_53 : decode cR_crashNow 53 = .ok (.aload_n 0, 1) := by decide +kernel
theorem dR_crashNow_54 : decode cR_crashNow 54 = .ok (.getfield 13, 3) := by decide +kernel
theorem dR_crashNow_57 : decode cR_crashNow 57 = .ok (.iload_n 3, 1) := by decide +kernel
theorem dR_crashNow_58 : decode cR_crashNow 58 = .ok (.laload, 1) := by decide +kernel
theorem dR_crashNow_59 : decode cR_crashNow 59 = .ok (.goto 25, 3) := by decide +kernel
theorem dR_crashNow_62 : decode cR_crashNow 62 = .ok (.aload_n 0, 1) := by decide +kernel
theorem dR_crashNow_63 : decode cR_crashNow 63 = .ok (.getfield 16, 3) := by decide +kernel
theorem dR_crashNow_66 : decode cR_crashNow 66 = .ok (.iconst 4, 1) := by decide +kernel
theorem dR_crashNow_67 : decode cR_crashNow 67 = .ok (.iload_n 3, 1) := by decide +kernel
theorem dR_crashNow_68 : decode cR_crashNow 68 = .ok (.imul, 1) := by decide +kernel
theorem dR_crashNow_69 : decode cR_crashNow 69 = .ok (.iload 4, 2) := by decide +kernel
theorem dR_crashNow_71 : decode cR_crashNow 71 = .ok (.ifCond .ne 7, 3) := by decide +kernel
theorem dR_crashNow_74 : decode cR_crashNow 74 = .ok (.iconst 0, 1) := by decide +kernel
theorem dR_crashNow_75 : decode cR_crashNow 75 = .ok (.goto 7, 3) := by decide +kernel
theorem dR_crashNow_78 : decode cR_crashNow 78 = .ok (.iload 4, 2) := by decide +kernel
theorem dR_crashNow_80 : decode cR_crashNow 80 = .ok (.iconst 1, 1) := by decide +kernel
theorem dR_crashNow_81 : decode cR_crashNow 81 = .ok (.isub, 1) := by decide +kernel
theorem dR_crashNow_82 : decode cR_crashNow 82 = .ok (.iadd, 1) := by decide +kernel
theorem dR_crashNow_83 : decode cR_crashNow 83 = .ok (.laload, 1) := by decide +kernel
theorem dR_crashNow_84 : decode cR_crashNow 84 = .ok (.lastore, 1) := by decide +kernel
theorem dR_crashNow_85 : decode cR_crashNow 85 = .ok (.aload_n 0, 1) := by decide +kernel
theorem dR_crashNow_86 : decode cR_crashNow 86 = .ok (.getfield 19, 3) := by decide +kernel
theorem dR_crashNow_89 : decode cR_crashNow 89 = .ok (.iload_n 3, 1) := by decide +kernel
theorem dR_crashNow_90 : decode cR_crashNow 90 = .ok (.iconst 0, 1) := by decide +kernel
theorem dR_crashNow_91 : decode cR_crashNow 91 = .ok (.iastore, 1) := by decide +kernel
theorem dR_crashNow_92 : decode cR_crashNow 92 = .ok (.aload_n 0, 1) := by decide +kernel
theorem dR_crashNow_93 : decode cR_crashNow 93 = .ok (.getfield 7, 3) := by decide +kernel
theorem dR_crashNow_96 : decode cR_crashNow 96 = .ok (.iload_n 3, 1) := by decide +kernel
theorem dR_crashNow_97 : decode cR_crashNow 97 = .ok (.aload_n 0, 1) := by decide +kernel
theorem dR_crashNow_98 : decode cR_crashNow 98 = .ok (.getfield 13, 3) := by decide +kernel
theorem dR_crashNow_101 : decode cR_crashNow 101 = .ok (.iload_n 3, 1) := by decide +kernel
theorem dR_crashNow_102 : decode cR_crashNow 102 = .ok (.laload, 1) := by decide +kernel
theorem dR_crashNow_103 : decode cR_crashNow 103 = .ok (.lastore, 1) := by decide +kernel
theorem dR_crashNow_104 : decode cR_crashNow 104 = .ok (.iinc 3 1, 3) := by decide +kernel
theorem dR_crashNow_107 : decode cR_crashNow 107 = .ok (.goto (-103), 3) := by decide +kernel
theorem dR_crashNow_110 : decode cR_crashNow 110 = .ok (.iconst 0, 1) := by decide +kernel
theorem dR_crashNow_111 : decode cR_crashNow 111 = .ok (.istore_n 3, 1) := by decide +kernel
theorem dR_crashNow_112 : decode cR_crashNow 112 = .ok (.iload_n 3, 1) := by decide +kernel
theorem dR_crashNow_113 : decode cR_crashNow 113 = .ok (.bipush 14, 2) := by decide +kernel
theorem dR_crashNow_115 : decode cR_crashNow 115 = .ok (.if_icmp .ge 16, 3) := by decide +kernel
theorem dR_crashNow_118 : decode cR_crashNow 118 = .ok (.aload_n 0, 1) := by decide +kernel
theorem dR_crashNow_119 : decode cR_crashNow 119 = .ok (.getfield 23, 3) := by decide +kernel
theorem dR_crashNow_122 : decode cR_crashNow 122 = .ok (.iload_n 3, 1) := by decide +kernel
theorem dR_crashNow_123 : decode cR_crashNow 123 = .ok (.iconst 0, 1) := by decide +kernel
theorem dR_crashNow_124 : decode cR_crashNow 124 = .ok (.bastore, 1) := by decide +kernel
theorem dR_crashNow_125 : decode cR_crashNow 125 = .ok (.iinc 3 1, 3) := by decide +kernel
theorem dR_crashNow_128 : decode cR_crashNow 128 = .ok (.goto (-16), 3) := by decide +kernel
theorem dR_crashNow_131 : decode cR_crashNow 131 = .ok (.aload_n 0, 1) := by decide +kernel
theorem dR_crashNow_132 : decode cR_crashNow 132 = .ok (.iconst 1, 1) := by decide +kernel
theorem dR_crashNow_133 : decode cR_crashNow 133 = .ok (.putfield 53, 3) := by decide +kernel
theorem dR_crashNow_136 : decode cR_crashNow 136 = .ok (.aload_n 0, 1) := by decide +kernel
theorem dR_crashNow_137 : decode cR_crashNow 137 = .ok (.iconst 0, 1) := by decide +kernel
theorem dR_crashNow_138 : decode cR_crashNow 138 = .ok (.putfield 57, 3) := by decide +kernel
theorem dR_crashNow_141 : decode cR_crashNow 141 = .ok (.aload_n 0, 1) := by decide +kernel
theorem dR_crashNow_142 : decode cR_crashNow 142 = .ok (.getfield 34, 3) := by decide +kernel
theorem dR_crashNow_145 : decode cR_crashNow 145 = .ok (.iconst 0, 1) := by decide +kernel
theorem dR_crashNow_146 : decode cR_crashNow 146 = .ok (.iconst 0, 1) := by decide +kernel
theorem dR_crashNow_147 : decode cR_crashNow 147 = .ok (.bastore, 1) := by decide +kernel
theorem dR_crashNow_148 : decode cR_crashNow 148 = .ok (.aload_n 0, 1) := by decide +kernel
theorem dR_crashNow_149 : decode cR_crashNow 149 = .ok (.getfield 34, 3) := by decide +kernel
theorem dR_crashNow_152 : decode cR_crashNow 152 = .ok (.iconst 1, 1) := by decide +kernel
theorem dR_crashNow_153 : decode cR_crashNow 153 = .ok (.iconst 0, 1) := by decide +kernel
theorem dR_crashNow_154 : decode cR_crashNow 154 = .ok (.bastore, 1) := by decide +kernel
theorem dR_crashNow_155 : decode cR_crashNow 155 = .ok (.aload_n 0, 1) := by decide +kernel
theorem dR_crashNow_156 : decode cR_crashNow 156 = .ok (.dup, 1) := by decide +kernel
theorem dR_crashNow_157 : decode cR_crashNow 157 = .ok (.getfield 60, 3) := by decide +kernel
theorem dR_crashNow_160 : decode cR_crashNow 160 = .ok (.iconst 1, 1) := by decide +kernel
theorem dR_crashNow_161 : decode cR_crashNow 161 = .ok (.iadd, 1) := by decide +kernel
theorem dR_crashNow_162 : decode cR_crashNow 162 = .ok (.putfield 60, 3) := by decide +kernel
theorem dR_crashNow_165 : decode cR_crashNow 165 = .ok (.return_, 1) := by decide +kernel
theorem dR_flush_0 : decode cR_flush 0 = .ok (.aload_n 0, 1) := by decide +kernel
theorem dR_flush_1 : decode cR_flush 1 = .ok (.invokevirtual 73, 3) := by decide +kernel
theorem dR_flush_4 : decode cR_flush 4 = .ok (.ifCond .eq 20, 3) := by decide +kernel
theorem dR_flush_7 : decode cR_flush 7 = .ok (.aload_n 0, 1) := by decide +kernel
theorem dR_flush_8 : decode cR_flush 8 = .ok (.getfield 23, 3) := by decide +kernel
theorem dR_flush_11 : decode cR_flush 11 = .ok (.iload_n 1, 1) := by decide +kernel
theorem dR_flush_12 : decode cR_flush 12 = .ok (.iconst 1, 1) := by decide +kernel
theorem dR_flush_13 : decode cR_flush 13 = .ok (.bastore, 1) := by decide +kernel
theorem dR_flush_14 : decode cR_flush 14 = .ok (.aload_n 0, 1) := by decide +kernel
theorem dR_flush_15 : decode cR_flush 15 = .ok (.dup, 1) := by decide +kernel
theorem dR_flush_16 : decode cR_flush 16 = .ok (.getfield 80, 3) := by decide +kernel
theorem dR_flush_19 : decode cR_flush 19 = .ok (.iconst 1, 1) := by decide +kernel
theorem dR_flush_20 : decode cR_flush 20 = .ok (.iadd, 1) := by decide +kernel
theorem dR_flush_21 : decode cR_flush 21 = .ok (.putfield 80, 3) := by decide +kernel
theorem dR_flush_24 : decode cR_flush 24 = .ok (.return_, 1) := by decide +kernel
theorem dR_fence_0 : decode cR_fence 0 = .ok (.aload_n 0, 1) := by decide +kernel
theorem dR_fence_1 : decode cR_fence 1 = .ok (.invokevirtual 73, 3) := by decide +kernel
theorem dR_fence_4 : decode cR_fence 4 = .ok (.ifCond .eq 79, 3) := by decide +kernel
theorem dR_fence_7 : decode cR_fence 7 = .ok (.iconst 0, 1) := by decide +kernel
theorem dR_fence_8 : decode cR_fence 8 = .ok (.istore_n 1, 1) := by decide +kernel
theorem dR_fence_9 : decode cR_fence 9 = .ok (.iload_n 1, 1) := by decide +kernel
theorem dR_fence_10 : decode cR_fence 10 = .ok (.bipush 112, 2) := by decide +kernel
theorem dR_fence_12 : decode cR_fence 12 = .ok (.if_icmp .ge 40, 3) := by decide +kernel
theorem dR_fence_15 : decode cR_fence 15 = .ok (.aload_n 0, 1) := by decide +kernel
theorem dR_fence_16 : decode cR_fence 16 = .ok (.getfield 23, 3) := by decide +kernel
theorem dR_fence_19 : decode cR_fence 19 = .ok (.iload_n 1, 1) := by decide +kernel
theorem dR_fence_20 : decode cR_fence 20 = .ok (.bipush 8, 2) := by decide +kernel
theorem dR_fence_22 : decode cR_fence 22 = .ok (.idiv, 1) := by decide +kernel
theorem dR_fence_23 : decode cR_fence 23 = .ok (.baload, 1) := by decide +kernel
theorem dR_fence_24 : decode cR_fence 24 = .ok (.ifCond .eq 22, 3) := by decide +kernel
theorem dR_fence_27 : decode cR_fence 27 = .ok (.aload_n 0, 1) := by decide +kernel
theorem dR_fence_28 : decode cR_fence 28 = .ok (.getfield 13, 3) := by decide +kernel
theorem dR_fence_31 : decode cR_fence 31 = .ok (.iload_n 1, 1) := by decide +kernel
theorem dR_fence_32 : decode cR_fence 32 = .ok (.aload_n 0, 1) := by decide +kernel
theorem dR_fence_33 : decode cR_fence 33 = .ok (.getfield 7, 3) := by decide +kernel
theorem dR_fence_36 : decode cR_fence 36 = .ok (.iload_n 1, 1) := by decide +kernel
theorem dR_fence_37 : decode cR_fence 37 = .ok (.laload, 1) := by decide +kernel
theorem dR_fence_38 : decode cR_fence 38 = .ok (.lastore, 1) := by decide +kernel
theorem dR_fence_39 : decode cR_fence 39 = .ok (.aload_n 0, 1) := by decide +kernel
theorem dR_fence_40 : decode cR_fence 40 = .ok (.getfield 19, 3) := by decide +kernel
theorem dR_fence_43 : decode cR_fence 43 = .ok (.iload_n 1, 1) := by decide +kernel
theorem dR_fence_44 : decode cR_fence 44 = .ok (.iconst 0, 1) := by decide +kernel
theorem dR_fence_45 : decode cR_fence 45 = .ok (.iastore, 1) := by decide +kernel
theorem dR_fence_46 : decode cR_fence 46 = .ok (.iinc 1 1, 3) := by decide +kernel
theorem dR_fence_49 : decode cR_fence 49 = .ok (.goto (-40), 3) := by decide +kernel
theorem dR_fence_52 : decode cR_fence 52 = .ok (.iconst 0, 1) := by decide +kernel
theorem dR_fence_53 : decode cR_fence 53 = .ok (.istore_n 1, 1) := by decide +kernel
theorem dR_fence_54 : decode cR_fence 54 = .ok (.iload_n 1, 1) := by decide +kernel
theorem dR_fence_55 : decode cR_fence 55 = .ok (.bipush 14, 2) := by decide +kernel
theorem dR_fence_57 : decode cR_fence 57 = .ok (.if_icmp .ge 16, 3) := by decide +kernel
theorem dR_fence_60 : decode cR_fence 60 = .ok (.aload_n 0, 1) := by decide +kernel
theorem dR_fence_61 : decode cR_fence 61 = .ok (.getfield 23, 3) := by decide +kernel
theorem dR_fence_64 : decode cR_fence 64 = .ok (.iload_n 1, 1) := by decide +kernel
theorem dR_fence_65 : decode cR_fence 65 = .ok (.iconst 0, 1) := by decide +kernel
theorem dR_fence_66 : decode cR_fence 66 = .ok (.bastore, 1) := by decide +kernel
theorem dR_fence_67 : decode cR_fence 67 = .ok (.iinc 1 1, 3) := by decide +kernel
theorem dR_fence_70 : decode cR_fence 70 = .ok (.goto (-16), 3) := by decide +kernel
theorem dR_fence_73 : decode cR_fence 73 = .ok (.aload_n 0, 1) := by decide +kernel
theorem dR_fence_74 : decode cR_fence 74 = .ok (.dup, 1) := by decide +kernel
theorem dR_fence_75 : decode cR_fence 75 = .ok (.getfield 83, 3) := by decide +kernel
theorem dR_fence_78 : decode cR_fence 78 = .ok (.iconst 1, 1) := by decide +kernel
theorem dR_fence_79 : decode cR_fence 79 = .ok (.iadd, 1) := by decide +kernel
theorem dR_fence_80 : decode cR_fence 80 = .ok (.putfield 83, 3) := by decide +kernel
theorem dR_fence_83 : decode cR_fence 83 = .ok (.return_, 1) := by decide +kernel
theorem dR_storeCount_0 : decode cR_storeCount 0 = .ok (.aload_n 0, 1) := by decide +kernel
theorem dR_storeCount_1 : decode cR_storeCount 1 = .ok (.bipush 40, 2) := by decide +kernel
theorem dR_storeCount_3 : decode cR_storeCount 3 = .ok (.lload_n 1, 1) := by decide +kernel
theorem dR_storeCount_4 : decode cR_storeCount 4 = .ok (.invokevirtual 86, 3) := by decide +kernel
theorem dR_storeCount_7 : decode cR_storeCount 7 = .ok (.aload_n 0, 1) := by decide +kernel
theorem dR_storeCount_8 : decode cR_storeCount 8 = .ok (.iconst 5, 1) := by decide +kernel
theorem dR_storeCount_9 : decode cR_storeCount 9 = .ok (.invokevirtual 90, 3) := by decide +kernel
theorem dR_storeCount_12 : decode cR_storeCount 12 = .ok (.aload_n 0, 1) := by decide +kernel
theorem dR_storeCount_13 : decode cR_storeCount 13 = .ok (.invokevirtual 93, 3) := by decide +kernel
theorem dR_storeCount_16 : decode cR_storeCount 16 = .ok (.return_, 1) := by decide +kernel
theorem dR_settle_0 : decode cR_settle 0 = .ok (.iconst 0, 1) := by decide +kernel
theorem dR_settle_1 : decode cR_settle 1 = .ok (.istore_n 2, 1) := by decide +kernel
theorem dR_settle_2 : decode cR_settle 2 = .ok (.iload_n 2, 1) := by decide +kernel
theorem dR_settle_3 : decode cR_settle 3 = .ok (.iconst 4, 1) := by decide +kernel
theorem dR_settle_4 : decode cR_settle 4 = .ok (.if_icmp .ge 27, 3) := by decide +kernel
theorem dR_settle_7 : decode cR_settle 7 = .ok (.iload_n 1, 1) := by decide +kernel
theorem dR_settle_8 : decode cR_settle 8 = .ok (.bipush 8, 2) := by decide +kernel
theorem dR_settle_10 : decode cR_settle 10 = .ok (.iload_n 2, 1) := by decide +kernel
theorem dR_settle_11 : decode cR_settle 11 = .ok (.imul, 1) := by decide +kernel
theorem dR_settle_12 : decode cR_settle 12 = .ok (.ishr, 1) := by decide +kernel
theorem dR_settle_13 : decode cR_settle 13 = .ok (.sipush 255, 3) := by decide +kernel
theorem dR_settle_16 : decode cR_settle 16 = .ok (.iand, 1) := by decide +kernel
theorem dR_settle_17 : decode cR_settle 17 = .ok (.ifCond .eq 8, 3) := by decide +kernel
theorem dR_settle_20 : decode cR_settle 20 = .ok (.aload_n 0, 1) := by decide +kernel
theorem dR_settle_21 : decode cR_settle 21 = .ok (.iload_n 2, 1) := by decide +kernel
theorem dR_settle_22 : decode cR_settle 22 = .ok (.invokevirtual 90, 3) := by decide +kernel
theorem dR_settle_25 : decode cR_settle 25 = .ok (.iinc 2 1, 3) := by decide +kernel
theorem dR_settle_28 : decode cR_settle 28 = .ok (.goto (-26), 3) := by decide +kernel
theorem dR_settle_31 : decode cR_settle 31 = .ok (.aload_n 0, 1) := by decide +kernel
theorem dR_settle_32 : decode cR_settle 32 = .ok (.invokevirtual 93, 3) := by decide +kernel
theorem dR_settle_35 : decode cR_settle 35 = .ok (.return_, 1) := by decide +kernel
theorem dR_abort_0 : decode cR_abort 0 = .ok (.aload_n 0, 1) := by decide +kernel
theorem dR_abort_1 : decode cR_abort 1 = .ok (.aload_n 0, 1) := by decide +kernel
theorem dR_abort_2 : decode cR_abort 2 = .ok (.getfield 53, 3) := by decide +kernel
theorem dR_abort_5 : decode cR_abort 5 = .ok (.ifCond .ne 10, 3) := by decide +kernel
theorem dR_abort_8 : decode cR_abort 8 = .ok (.aload_n 0, 1) := by decide +kernel
theorem dR_abort_9 : decode cR_abort 9 = .ok (.getfield 57, 3) := by decide +kernel
theorem dR_abort_12 : decode cR_abort 12 = .ok (.ifCond .ne 7, 3) := by decide +kernel
theorem dR_abort_15 : decode cR_abort 15 = .ok (.iconst 1, 1) := by decide +kernel
theorem dR_abort_16 : decode cR_abort 16 = .ok (.goto 4, 3) := by decide +kernel
theorem dR_abort_19 : decode cR_abort 19 = .ok (.iconst 0, 1) := by decide +kernel
theorem dR_abort_20 : decode cR_abort 20 = .ok (.putfield 49, 3) := by decide +kernel
theorem dR_abort_23 : decode cR_abort 23 = .ok (.aload_n 0, 1) := by decide +kernel
theorem dR_abort_24 : decode cR_abort 24 = .ok (.aload_n 0, 1) := by decide +kernel
theorem dR_abort_25 : decode cR_abort 25 = .ok (.getfield 57, 3) := by decide +kernel
theorem dR_abort_28 : decode cR_abort 28 = .ok (.ifCond .eq 14, 3) := by decide +kernel
theorem dR_abort_31 : decode cR_abort 31 = .ok (.aload_n 0, 1) := by decide +kernel
theorem dR_abort_32 : decode cR_abort 32 = .ok (.getfield 49, 3) := by decide +kernel
theorem dR_abort_35 : decode cR_abort 35 = .ok (.ifCond .le 7, 3) := by decide +kernel
theorem dR_abort_38 : decode cR_abort 38 = .ok (.iconst 1, 1) := by decide +kernel
theorem dR_abort_39 : decode cR_abort 39 = .ok (.goto 4, 3) := by decide +kernel
theorem dR_abort_42 : decode cR_abort 42 = .ok (.iconst 0, 1) := by decide +kernel
theorem dR_abort_43 : decode cR_abort 43 = .ok (.putfield 57, 3) := by decide +kernel
theorem dR_abort_46 : decode cR_abort 46 = .ok (.return_, 1) := by decide +kernel
theorem dR_add_0 : decode cR_add 0 = .ok (.aload_n 0, 1) := by decide +kernel
theorem dR_add_1 : decode cR_add 1 = .ok (.aload_n 0, 1) := by decide +kernel
theorem dR_add_2 : decode cR_add 2 = .ok (.getfield 53, 3) := by decide +kernel
theorem dR_add_5 : decode cR_add 5 = .ok (.ifCond .eq 7, 3) := by decide +kernel
theorem dR_add_8 : decode cR_add 8 = .ok (.iconst 1, 1) := by decide +kernel
theorem dR_add_9 : decode cR_add 9 = .ok (.goto 16, 3) := by decide +kernel
theorem dR_add_12 : decode cR_add 12 = .ok (.iload_n 1, 1) := by decide +kernel
theorem dR_add_13 : decode cR_add 13 = .ok (.i2l, 1) := by decide +kernel
theorem dR_add_14 : decode cR_add 14 = .ok (.invokestatic 115, 3) := by decide +kernel
theorem dR_add_17 : decode cR_add 17 = .ok (.ifCond .ne 7, 3) := by decide +kernel
theorem dR_add_20 : decode cR_add 20 = .ok (.iconst 2, 1) := by decide +kernel
theorem dR_add_21 : decode cR_add 21 = .ok (.goto 4, 3) := by decide +kernel
theorem dR_add_24 : decode cR_add 24 = .ok (.iconst 0, 1) := by decide +kernel
theorem dR_add_25 : decode cR_add 25 = .ok (.putfield 49, 3) := by decide +kernel
theorem dR_add_28 : decode cR_add 28 = .ok (.aload_n 0, 1) := by decide +kernel
theorem dR_add_29 : decode cR_add 29 = .ok (.getfield 49, 3) := by decide +kernel
theorem dR_add_32 : decode cR_add 32 = .ok (.ifCond .le 5, 3) := by decide +kernel
theorem dR_add_35 : decode cR_add 35 = .ok (.lconst 0, 1) := by decide +kernel
theorem dR_add_36 : decode cR_add 36 = .ok (.lreturn, 1) := by decide +kernel
theorem dR_add_37 : decode cR_add 37 = .ok (.aload_n 0, 1) := by decide +kernel
theorem dR_add_38 : decode cR_add 38 = .ok (.invokevirtual 119, 3) := by decide +kernel
theorem dR_add_41 : decode cR_add 41 = .ok (.aload_n 0, 1) := by decide +kernel
theorem dR_add_42 : decode cR_add 42 = .ok (.getfield 27, 3) := by decide +kernel
theorem dR_add_45 : decode cR_add 45 = .ok (.iload_n 1, 1) := by decide +kernel
theorem dR_add_46 : decode cR_add 46 = .ok (.aload_n 0, 1) := by decide +kernel
theorem dR_add_47 : decode cR_add 47 = .ok (.getfield 27, 3) := by decide +kernel
theorem dR_add_50 : decode cR_add 50 = .ok (.iload_n 1, 1) := by decide +kernel
theorem dR_add_51 : decode cR_add 51 = .ok (.laload, 1) := by decide +kernel
theorem dR_add_52 : decode cR_add 52 = .ok (.lload_n 2, 1) := by decide +kernel
theorem dR_add_53 : decode cR_add 53 = .ok (.ladd, 1) := by decide +kernel
theorem dR_add_54 : decode cR_add 54 = .ok (.lastore, 1) := by decide +kernel
theorem dR_add_55 : decode cR_add 55 = .ok (.aload_n 0, 1) := by decide +kernel
theorem dR_add_56 : decode cR_add 56 = .ok (.getfield 27, 3) := by decide +kernel
theorem dR_add_59 : decode cR_add 59 = .ok (.iload_n 1, 1) := by decide +kernel
theorem dR_add_60 : decode cR_add 60 = .ok (.laload, 1) := by decide +kernel
theorem dR_add_61 : decode cR_add 61 = .ok (.lstore 4, 2) := by decide +kernel
theorem dR_add_63 : decode cR_add 63 = .ok (.aload_n 0, 1) := by decide +kernel
theorem dR_add_64 : decode cR_add 64 = .ok (.invokevirtual 122, 3) := by decide +kernel
theorem dR_add_67 : decode cR_add 67 = .ok (.aload_n 0, 1) := by decide +kernel
theorem dR_add_68 : decode cR_add 68 = .ok (.getfield 49, 3) := by decide +kernel
theorem dR_add_71 : decode cR_add 71 = .ok (.ifCond .le 7, 3) := by decide +kernel
theorem dR_add_74 : decode cR_add 74 = .ok (.lconst 0, 1) := by decide +kernel
theorem dR_add_75 : decode cR_add 75 = .ok (.goto 5, 3) := by decide +kernel
theorem dR_add_78 : decode cR_add 78 = .ok (.lload 4, 2) := by decide +kernel
theorem dR_add_80 : decode cR_add 80 = .ok (.lreturn, 1) := by decide +kernel
theorem dR_isCounter_0 : decode cR_isCounter 0 = .ok (.lload_n 0, 1) := by decide +kernel
theorem dR_isCounter_1 : decode cR_isCounter 1 = .ok (.lconst 0, 1) := by decide +kernel
theorem dR_isCounter_2 : decode cR_isCounter 2 = .ok (.lcmp, 1) := by decide +kernel
theorem dR_isCounter_3 : decode cR_isCounter 3 = .ok (.ifCond .lt 15, 3) := by decide +kernel
theorem dR_isCounter_6 : decode cR_isCounter 6 = .ok (.lload_n 0, 1) := by decide +kernel
theorem dR_isCounter_7 : decode cR_isCounter 7 = .ok (.ldc2_w 113, 3) := by decide +kernel
theorem dR_isCounter_10 : decode cR_isCounter 10 = .ok (.lcmp, 1) := by decide +kernel
theorem dR_isCounter_11 : decode cR_isCounter 11 = .ok (.ifCond .ge 7, 3) := by decide +kernel
theorem dR_isCounter_14 : decode cR_isCounter 14 = .ok (.iconst 1, 1) := by decide +kernel
theorem dR_isCounter_15 : decode cR_isCounter 15 = .ok (.goto 4, 3) := by decide +kernel
theorem dR_isCounter_18 : decode cR_isCounter 18 = .ok (.iconst 0, 1) := by decide +kernel
theorem dR_isCounter_19 : decode cR_isCounter 19 = .ok (.ireturn, 1) := by decide +kernel
theorem dR_see_0 : decode cR_see 0 = .ok (.aload_n 0, 1) := by decide +kernel
theorem dR_see_1 : decode cR_see 1 = .ok (.getfield 57, 3) := by decide +kernel
theorem dR_see_4 : decode cR_see 4 = .ok (.ifCond .ne 7, 3) := by decide +kernel
theorem dR_see_7 : decode cR_see 7 = .ok (.aload_n 0, 1) := by decide +kernel
theorem dR_see_8 : decode cR_see 8 = .ok (.invokevirtual 110, 3) := by decide +kernel
theorem dR_see_11 : decode cR_see 11 = .ok (.return_, 1) := by decide +kernel
theorem dR_done_0 : decode cR_done 0 = .ok (.aload_n 0, 1) := by decide +kernel
theorem dR_done_1 : decode cR_done 1 = .ok (.getfield 57, 3) := by decide +kernel
theorem dR_done_4 : decode cR_done 4 = .ok (.ifCond .ne 8, 3) := by decide +kernel
theorem dR_done_7 : decode cR_done 7 = .ok (.aload_n 0, 1) := by decide +kernel
theorem dR_done_8 : decode cR_done 8 = .ok (.invokevirtual 107, 3) := by decide +kernel
theorem dR_done_11 : decode cR_done 11 = .ok (.istore_n 1, 1) := by decide +kernel
theorem dR_done_12 : decode cR_done 12 = .ok (.return_, 1) := by decide +kernel
theorem dR_push_0 : decode cR_push 0 = .ok (.aload_n 0, 1) := by decide +kernel
theorem dR_push_1 : decode cR_push 1 = .ok (.aload_n 0, 1) := by decide +kernel
theorem dR_push_2 : decode cR_push 2 = .ok (.getfield 53, 3) := by decide +kernel
theorem dR_push_5 : decode cR_push 5 = .ok (.ifCond .eq 7, 3) := by decide +kernel
theorem dR_push_8 : decode cR_push 8 = .ok (.iconst 1, 1) := by decide +kernel
theorem dR_push_9 : decode cR_push 9 = .ok (.goto 4, 3) := by decide +kernel
theorem dR_push_12 : decode cR_push 12 = .ok (.iconst 0, 1) := by decide +kernel
theorem dR_push_13 : decode cR_push 13 = .ok (.putfield 49, 3) := by decide +kernel
theorem dR_push_16 : decode cR_push 16 = .ok (.aload_n 0, 1) := by decide +kernel
theorem dR_push_17 : decode cR_push 17 = .ok (.getfield 49, 3) := by decide +kernel
theorem dR_push_20 : decode cR_push 20 = .ok (.ifCond .le 5, 3) := by decide +kernel
theorem dR_push_23 : decode cR_push 23 = .ok (.iconst 0, 1) := by decide +kernel
theorem dR_push_24 : decode cR_push 24 = .ok (.ireturn, 1) := by decide +kernel
theorem dR_push_25 : decode cR_push 25 = .ok (.aload_n 0, 1) := by decide +kernel
theorem dR_push_26 : decode cR_push 26 = .ok (.invokevirtual 119, 3) := by decide +kernel
theorem dR_push_29 : decode cR_push 29 = .ok (.aload_n 0, 1) := by decide +kernel
theorem dR_push_30 : decode cR_push 30 = .ok (.getfield 27, 3) := by decide +kernel
theorem dR_push_33 : decode cR_push 33 = .ok (.iconst 5, 1) := by decide +kernel
theorem dR_push_34 : decode cR_push 34 = .ok (.laload, 1) := by decide +kernel
theorem dR_push_35 : decode cR_push 35 = .ok (.l2i, 1) := by decide +kernel
theorem dR_push_36 : decode cR_push 36 = .ok (.istore_n 3, 1) := by decide +kernel
theorem dR_push_37 : decode cR_push 37 = .ok (.aload_n 0, 1) := by decide +kernel
theorem dR_push_38 : decode cR_push 38 = .ok (.iload_n 3, 1) := by decide +kernel
theorem dR_push_39 : decode cR_push 39 = .ok (.bipush 8, 2) := by decide +kernel
theorem dR_push_41 : decode cR_push 41 = .ok (.if_icmp .ne 7, 3) := by decide +kernel
theorem dR_push_44 : decode cR_push 44 = .ok (.iconst 2, 1) := by decide +kernel
theorem dR_push_45 : decode cR_push 45 = .ok (.goto 4, 3) := by decide +kernel
theorem dR_push_48 : decode cR_push 48 = .ok (.iconst 0, 1) := by decide +kernel
theorem dR_push_49 : decode cR_push 49 = .ok (.putfield 49, 3) := by decide +kernel
theorem dR_push_52 : decode cR_push 52 = .ok (.aload_n 0, 1) := by decide +kernel
theorem dR_push_53 : decode cR_push 53 = .ok (.getfield 49, 3) := by decide +kernel
theorem dR_push_56 : decode cR_push 56 = .ok (.ifCond .le 5, 3) := by decide +kernel
theorem dR_push_59 : decode cR_push 59 = .ok (.iconst 0, 1) := by decide +kernel
theorem dR_push_60 : decode cR_push 60 = .ok (.ireturn, 1) := by decide +kernel
theorem dR_push_61 : decode cR_push 61 = .ok (.aload_n 0, 1) := by decide +kernel
theorem dR_push_62 : decode cR_push 62 = .ok (.getfield 27, 3) := by decide +kernel
theorem dR_push_65 : decode cR_push 65 = .ok (.bipush 6, 2) := by decide +kernel
theorem dR_push_67 : decode cR_push 67 = .ok (.aload_n 0, 1) := by decide +kernel
theorem dR_push_68 : decode cR_push 68 = .ok (.getfield 27, 3) := by decide +kernel
theorem dR_push_71 : decode cR_push 71 = .ok (.iconst 4, 1) := by decide +kernel
theorem dR_push_72 : decode cR_push 72 = .ok (.laload, 1) := by decide +kernel
theorem dR_push_73 : decode cR_push 73 = .ok (.l2i, 1) := by decide +kernel
theorem dR_push_74 : decode cR_push 74 = .ok (.iload_n 3, 1) := by decide +kernel
theorem dR_push_75 : decode cR_push 75 = .ok (.iadd, 1) := by decide +kernel
theorem dR_push_76 : decode cR_push 76 = .ok (.bipush 8, 2) := by decide +kernel
theorem dR_push_78 : decode cR_push 78 = .ok (.irem, 1) := by decide +kernel
theorem dR_push_79 : decode cR_push 79 = .ok (.iadd, 1) := by decide +kernel
theorem dR_push_80 : decode cR_push 80 = .ok (.lload_n 1, 1) := by decide +kernel
theorem dR_push_81 : decode cR_push 81 = .ok (.lastore, 1) := by decide +kernel
theorem dR_push_82 : decode cR_push 82 = .ok (.aload_n 0, 1) := by decide +kernel
theorem dR_push_83 : decode cR_push 83 = .ok (.getfield 27, 3) := by decide +kernel
theorem dR_push_86 : decode cR_push 86 = .ok (.iconst 5, 1) := by decide +kernel
theorem dR_push_87 : decode cR_push 87 = .ok (.iload_n 3, 1) := by decide +kernel
theorem dR_push_88 : decode cR_push 88 = .ok (.iconst 1, 1) := by decide +kernel
theorem dR_push_89 : decode cR_push 89 = .ok (.iadd, 1) := by decide +kernel
theorem dR_push_90 : decode cR_push 90 = .ok (.i2l, 1) := by decide +kernel
theorem dR_push_91 : decode cR_push 91 = .ok (.lastore, 1) := by decide +kernel
theorem dR_push_92 : decode cR_push 92 = .ok (.aload_n 0, 1) := by decide +kernel
theorem dR_push_93 : decode cR_push 93 = .ok (.invokevirtual 122, 3) := by decide +kernel
theorem dR_push_96 : decode cR_push 96 = .ok (.aload_n 0, 1) := by decide +kernel
theorem dR_push_97 : decode cR_push 97 = .ok (.getfield 49, 3) := by decide +kernel
theorem dR_push_100 : decode cR_push 100 = .ok (.ifCond .le 7, 3) := by decide +kernel
theorem dR_push_103 : decode cR_push 103 = .ok (.iconst 0, 1) := by decide +kernel
theorem dR_push_104 : decode cR_push 104 = .ok (.goto 6, 3) := by decide +kernel
theorem dR_push_107 : decode cR_push 107 = .ok (.iload_n 3, 1) := by decide +kernel
theorem dR_push_108 : decode cR_push 108 = .ok (.iconst 1, 1) := by decide +kernel
theorem dR_push_109 : decode cR_push 109 = .ok (.iadd, 1) := by decide +kernel
theorem dR_push_110 : decode cR_push 110 = .ok (.ireturn, 1) := by decide +kernel
theorem dR_pop_0 : decode cR_pop 0 = .ok (.aload_n 0, 1) := by decide +kernel
theorem dR_pop_1 : decode cR_pop 1 = .ok (.aload_n 0, 1) := by decide +kernel
theorem dR_pop_2 : decode cR_pop 2 = .ok (.getfield 53, 3) := by decide +kernel
theorem dR_pop_5 : decode cR_pop 5 = .ok (.ifCond .eq 7, 3) := by decide +kernel
theorem dR_pop_8 : decode cR_pop 8 = .ok (.iconst 1, 1) := by decide +kernel
theorem dR_pop_9 : decode cR_pop 9 = .ok (.goto 4, 3) := by decide +kernel
theorem dR_pop_12 : decode cR_pop 12 = .ok (.iconst 0, 1) := by decide +kernel
theorem dR_pop_13 : decode cR_pop 13 = .ok (.putfield 49, 3) := by decide +kernel
theorem dR_pop_16 : decode cR_pop 16 = .ok (.aload_n 0, 1) := by decide +kernel
theorem dR_pop_17 : decode cR_pop 17 = .ok (.getfield 49, 3) := by decide +kernel
theorem dR_pop_20 : decode cR_pop 20 = .ok (.ifCond .le 5, 3) := by decide +kernel
theorem dR_pop_23 : decode cR_pop 23 = .ok (.lconst 0, 1) := by decide +kernel
theorem dR_pop_24 : decode cR_pop 24 = .ok (.lreturn, 1) := by decide +kernel
theorem dR_pop_25 : decode cR_pop 25 = .ok (.aload_n 0, 1) := by decide +kernel
theorem dR_pop_26 : decode cR_pop 26 = .ok (.invokevirtual 119, 3) := by decide +kernel
theorem dR_pop_29 : decode cR_pop 29 = .ok (.aload_n 0, 1) := by decide +kernel
theorem dR_pop_30 : decode cR_pop 30 = .ok (.aload_n 0, 1) := by decide +kernel
theorem dR_pop_31 : decode cR_pop 31 = .ok (.getfield 27, 3) := by decide +kernel
theorem dR_pop_34 : decode cR_pop 34 = .ok (.iconst 5, 1) := by decide +kernel
theorem dR_pop_35 : decode cR_pop 35 = .ok (.laload, 1) := by decide +kernel
theorem dR_pop_36 : decode cR_pop 36 = .ok (.lconst 0, 1) := by decide +kernel
theorem dR_pop_37 : decode cR_pop 37 = .ok (.lcmp, 1) := by decide +kernel
theorem dR_pop_38 : decode cR_pop 38 = .ok (.ifCond .ne 7, 3) := by decide +kernel
theorem dR_pop_41 : decode cR_pop 41 = .ok (.iconst 2, 1) := by decide +kernel
theorem dR_pop_42 : decode cR_pop 42 = .ok (.goto 4, 3) := by decide +kernel
theorem dR_pop_45 : decode cR_pop 45 = .ok (.iconst 0, 1) := by decide +kernel
theorem dR_pop_46 : decode cR_pop 46 = .ok (.putfield 49, 3) := by decide +kernel
theorem dR_pop_49 : decode cR_pop 49 = .ok (.aload_n 0, 1) := by decide +kernel
theorem dR_pop_50 : decode cR_pop 50 = .ok (.getfield 49, 3) := by decide +kernel
theorem dR_pop_53 : decode cR_pop 53 = .ok (.ifCond .le 5, 3) := by decide +kernel
theorem dR_pop_56 : decode cR_pop 56 = .ok (.lconst 0, 1) := by decide +kernel
theorem dR_pop_57 : decode cR_pop 57 = .ok (.lreturn, 1) := by decide +kernel
theorem dR_pop_58 : decode cR_pop 58 = .ok (.aload_n 0, 1) := by decide +kernel
theorem dR_pop_59 : decode cR_pop 59 = .ok (.getfield 27, 3) := by decide +kernel
theorem dR_pop_62 : decode cR_pop 62 = .ok (.iconst 4, 1) := by decide +kernel
theorem dR_pop_63 : decode cR_pop 63 = .ok (.laload, 1) := by decide +kernel
theorem dR_pop_64 : decode cR_pop 64 = .ok (.l2i, 1) := by decide +kernel
theorem dR_pop_65 : decode cR_pop 65 = .ok (.istore_n 1, 1) := by decide +kernel
theorem dR_pop_66 : decode cR_pop 66 = .ok (.aload_n 0, 1) := by decide +kernel
theorem dR_pop_67 : decode cR_pop 67 = .ok (.getfield 27, 3) := by decide +kernel
theorem dR_pop_70 : decode cR_pop 70 = .ok (.bipush 6, 2) := by decide +kernel
theorem dR_pop_72 : decode cR_pop 72 = .ok (.iload_n 1, 1) := by decide +kernel
theorem dR_pop_73 : decode cR_pop 73 = .ok (.iadd, 1) := by decide +kernel
theorem dR_pop_74 : decode cR_pop 74 = .ok (.laload, 1) := by decide +kernel
theorem dR_pop_75 : decode cR_pop 75 = .ok (.lstore_n 2, 1) := by decide +kernel
theorem dR_pop_76 : decode cR_pop 76 = .ok (.aload_n 0, 1) := by decide +kernel
theorem dR_pop_77 : decode cR_pop 77 = .ok (.getfield 27, 3) := by decide +kernel
theorem dR_pop_80 : decode cR_pop 80 = .ok (.iconst 4, 1) := by decide +kernel
theorem dR_pop_81 : decode cR_pop 81 = .ok (.iload_n 1, 1) := by decide +kernel
theorem dR_pop_82 : decode cR_pop 82 = .ok (.iconst 1, 1) := by decide +kernel
theorem dR_pop_83 : decode cR_pop 83 = .ok (.iadd, 1) := by decide +kernel
theorem dR_pop_84 : decode cR_pop 84 = .ok (.bipush 8, 2) := by decide +kernel
theorem dR_pop_86 : decode cR_pop 86 = .ok (.irem, 1) := by decide +kernel
theorem dR_pop_87 : decode cR_pop 87 = .ok (.i2l, 1) := by decide +kernel
theorem dR_pop_88 : decode cR_pop 88 = .ok (.lastore, 1) := by decide +kernel
theorem dR_pop_89 : decode cR_pop 89 = .ok (.aload_n 0, 1) := by decide +kernel
theorem dR_pop_90 : decode cR_pop 90 = .ok (.getfield 27, 3) := by decide +kernel
theorem dR_pop_93 : decode cR_pop 93 = .ok (.iconst 5, 1) := by decide +kernel
theorem dR_pop_94 : decode cR_pop 94 = .ok (.aload_n 0, 1) := by decide +kernel
theorem dR_pop_95 : decode cR_pop 95 = .ok (.getfield 27, 3) := by decide +kernel
theorem dR_pop_98 : decode cR_pop 98 = .ok (.iconst 5, 1) := by decide +kernel
theorem dR_pop_99 : decode cR_pop 99 = .ok (.laload, 1) := by decide +kernel
theorem dR_pop_100 : decode cR_pop 100 = .ok (.lconst 1, 1) := by decide +kernel
theorem dR_pop_101 : decode cR_pop 101 = .ok (.lsub, 1) := by decide +kernel
theorem dR_pop_102 : decode cR_pop 102 = .ok (.lastore, 1) := by decide +kernel
theorem dR_pop_103 : decode cR_pop 103 = .ok (.aload_n 0, 1) := by decide +kernel
theorem dR_pop_104 : decode cR_pop 104 = .ok (.invokevirtual 122, 3) := by decide +kernel
theorem dR_pop_107 : decode cR_pop 107 = .ok (.aload_n 0, 1) := by decide +kernel
theorem dR_pop_108 : decode cR_pop 108 = .ok (.getfield 49, 3) := by decide +kernel
theorem dR_pop_111 : decode cR_pop 111 = .ok (.ifCond .le 7, 3) := by decide +kernel
theorem dR_pop_114 : decode cR_pop 114 = .ok (.lconst 0, 1) := by decide +kernel
theorem dR_pop_115 : decode cR_pop 115 = .ok (.goto 4, 3) := by decide +kernel
theorem dR_pop_118 : decode cR_pop 118 = .ok (.lload_n 2, 1) := by decide +kernel
theorem dR_pop_119 : decode cR_pop 119 = .ok (.lreturn, 1) := by decide +kernel
theorem dR_put_0 : decode cR_put 0 = .ok (.aload_n 0, 1) := by decide +kernel
theorem dR_put_1 : decode cR_put 1 = .ok (.aload_n 0, 1) := by decide +kernel
theorem dR_put_2 : decode cR_put 2 = .ok (.getfield 53, 3) := by decide +kernel
theorem dR_put_5 : decode cR_put 5 = .ok (.ifCond .eq 7, 3) := by decide +kernel
theorem dR_put_8 : decode cR_put 8 = .ok (.iconst 1, 1) := by decide +kernel
theorem dR_put_9 : decode cR_put 9 = .ok (.goto 4, 3) := by decide +kernel
theorem dR_put_12 : decode cR_put 12 = .ok (.iconst 0, 1) := by decide +kernel
theorem dR_put_13 : decode cR_put 13 = .ok (.putfield 49, 3) := by decide +kernel
theorem dR_put_16 : decode cR_put 16 = .ok (.aload_n 0, 1) := by decide +kernel
theorem dR_put_17 : decode cR_put 17 = .ok (.getfield 49, 3) := by decide +kernel
theorem dR_put_20 : decode cR_put 20 = .ok (.ifCond .le 5, 3) := by decide +kernel
theorem dR_put_23 : decode cR_put 23 = .ok (.iconst 0, 1) := by decide +kernel
theorem dR_put_24 : decode cR_put 24 = .ok (.ireturn, 1) := by decide +kernel
theorem dR_put_25 : decode cR_put 25 = .ok (.aload_n 0, 1) := by decide +kernel
theorem dR_put_26 : decode cR_put 26 = .ok (.invokevirtual 119, 3) := by decide +kernel
theorem dR_put_29 : decode cR_put 29 = .ok (.aload_n 0, 1) := by decide +kernel
theorem dR_put_30 : decode cR_put 30 = .ok (.getfield 27, 3) := by decide +kernel
theorem dR_put_33 : decode cR_put 33 = .ok (.bipush 14, 2) := by decide +kernel
theorem dR_put_35 : decode cR_put 35 = .ok (.laload, 1) := by decide +kernel
theorem dR_put_36 : decode cR_put 36 = .ok (.l2i, 1) := by decide +kernel
theorem dR_put_37 : decode cR_put 37 = .ok (.istore 5, 2) := by decide +kernel
theorem dR_put_39 : decode cR_put 39 = .ok (.aload_n 0, 1) := by decide +kernel
theorem dR_put_40 : decode cR_put 40 = .ok (.lload_n 1, 1) := by decide +kernel
theorem dR_put_41 : decode cR_put 41 = .ok (.invokevirtual 125, 3) := by decide +kernel
theorem dR_put_44 : decode cR_put 44 = .ok (.istore 6, 2) := by decide +kernel
theorem dR_put_46 : decode cR_put 46 = .ok (.aload_n 0, 1) := by decide +kernel
theorem dR_put_47 : decode cR_put 47 = .ok (.iload 6, 2) := by decide +kernel
theorem dR_put_49 : decode cR_put 49 = .ok (.lload_n 1, 1) := by decide +kernel
theorem dR_put_50 : decode cR_put 50 = .ok (.invokevirtual 129, 3) := by decide +kernel
theorem dR_put_53 : decode cR_put 53 = .ok (.ifCond .ne 7, 3) := by decide +kernel
theorem dR_put_56 : decode cR_put 56 = .ok (.iconst 1, 1) := by decide +kernel
theorem dR_put_57 : decode cR_put 57 = .ok (.goto 4, 3) := by decide +kernel
theorem dR_put_60 : decode cR_put 60 = .ok (.iconst 0, 1) := by decide +kernel
theorem dR_put_61 : decode cR_put 61 = .ok (.istore 7, 2) := by decide +kernel
theorem dR_put_63 : decode cR_put 63 = .ok (.aload_n 0, 1) := by decide +kernel
theorem dR_put_64 : decode cR_put 64 = .ok (.iload 7, 2) := by decide +kernel
theorem dR_put_66 : decode cR_put 66 = .ok (.ifCond .eq 14, 3) := by decide +kernel
theorem dR_put_69 : decode cR_put 69 = .ok (.iload 5, 2) := by decide +kernel
theorem dR_put_71 : decode cR_put 71 = .ok (.bipush 8, 2) := by decide +kernel
theorem dR_put_73 : decode cR_put 73 = .ok (.if_icmp .ne 7, 3) := by decide +kernel
theorem dR_put_76 : decode cR_put 76 = .ok (.iconst 2, 1) := by decide +kernel
theorem dR_put_77 : decode cR_put 77 = .ok (.goto 4, 3) := by decide +kernel
theorem dR_put_80 : decode cR_put 80 = .ok (.iconst 0, 1) := by decide +kernel
theorem dR_put_81 : decode cR_put 81 = .ok (.putfield 49, 3) := by decide +kernel
theorem dR_put_84 : decode cR_put 84 = .ok (.aload_n 0, 1) := by decide +kernel
theorem dR_put_85 : decode cR_put 85 = .ok (.getfield 49, 3) := by decide +kernel
theorem dR_put_88 : decode cR_put 88 = .ok (.ifCond .le 5, 3) := by decide +kernel
theorem dR_put_91 : decode cR_put 91 = .ok (.iconst 0, 1) := by decide +kernel
theorem dR_put_92 : decode cR_put 92 = .ok (.ireturn, 1) := by decide +kernel
theorem dR_put_93 : decode cR_put 93 = .ok (.iload 5, 2) := by decide +kernel
theorem dR_put_95 : decode cR_put 95 = .ok (.istore 8, 2) := by decide +kernel
theorem dR_put_97 : decode cR_put 97 = .ok (.iload 8, 2) := by decide +kernel
theorem dR_put_99 : decode cR_put 99 = .ok (.iload 6, 2) := by decide +kernel
theorem dR_put_101 : decode cR_put 101 = .ok (.if_icmp .le 58, 3) := by decide +kernel
theorem dR_put_104 : decode cR_put 104 = .ok (.iload 7, 2) := by decide +kernel
theorem dR_put_106 : decode cR_put 106 = .ok (.ifCond .eq 53, 3) := by decide +kernel
theorem dR_put_109 : decode cR_put 109 = .ok (.aload_n 0, 1) := by decide +kernel
theorem dR_put_110 : decode cR_put 110 = .ok (.getfield 27, 3) := by decide +kernel
theorem dR_put_113 : decode cR_put 113 = .ok (.bipush 15, 2) := by decide +kernel
theorem dR_put_115 : decode cR_put 115 = .ok (.iload 8, 2) := by decide +kernel
theorem dR_put_117 : decode cR_put 117 = .ok (.iadd, 1) := by decide +kernel
theorem dR_put_118 : decode cR_put 118 = .ok (.aload_n 0, 1) := by decide +kernel
theorem dR_put_119 : decode cR_put 119 = .ok (.getfield 27, 3) := by decide +kernel
theorem dR_put_122 : decode cR_put 122 = .ok (.bipush 15, 2) := by decide +kernel
theorem dR_put_124 : decode cR_put 124 = .ok (.iload 8, 2) := by decide +kernel
theorem dR_put_126 : decode cR_put 126 = .ok (.iadd, 1) := by decide +kernel
theorem dR_put_127 : decode cR_put 127 = .ok (.iconst 1, 1) := by decide +kernel
theorem dR_put_128 : decode cR_put 128 = .ok (.isub, 1) := by decide +kernel
theorem dR_put_129 : decode cR_put 129 = .ok (.laload, 1) := by decide +kernel
theorem dR_put_130 : decode cR_put 130 = .ok (.lastore, 1) := by decide +kernel
theorem dR_put_131 : decode cR_put 131 = .ok (.aload_n 0, 1) := by decide +kernel
theorem dR_put_132 : decode cR_put 132 = .ok (.getfield 27, 3) := by decide +kernel
theorem dR_put_135 : decode cR_put 135 = .ok (.bipush 23, 2) := by decide +kernel
theorem dR_put_137 : decode cR_put 137 = .ok (.iload 8, 2) := by decide +kernel
theorem dR_put_139 : decode cR_put 139 = .ok (.iadd, 1) := by decide +kernel
theorem dR_put_140 : decode cR_put 140 = .ok (.aload_n 0, 1) := by decide +kernel
theorem dR_put_141 : decode cR_put 141 = .ok (.getfield 27, 3) := by decide +kernel
theorem dR_put_144 : decode cR_put 144 = .ok (.bipush 23, 2) := by decide +kernel
theorem dR_put_146 : decode cR_put 146 = .ok (.iload 8, 2) := by decide +kernel
theorem dR_put_148 : decode cR_put 148 = .ok (.iadd, 1) := by decide +kernel
theorem dR_put_149 : decode cR_put 149 = .ok (.iconst 1, 1) := by decide +kernel
theorem dR_put_150 : decode cR_put 150 = .ok (.isub, 1) := by decide +kernel
theorem dR_put_151 : decode cR_put 151 = .ok (.laload, 1) := by decide +kernel
theorem dR_put_152 : decode cR_put 152 = .ok (.lastore, 1) := by decide +kernel
theorem dR_put_153 : decode cR_put 153 = .ok (.iinc 8 (-1), 3) := by decide +kernel
theorem dR_put_156 : decode cR_put 156 = .ok (.goto (-59), 3) := by decide +kernel
theorem dR_put_159 : decode cR_put 159 = .ok (.aload_n 0, 1) := by decide +kernel
theorem dR_put_160 : decode cR_put 160 = .ok (.getfield 27, 3) := by decide +kernel
theorem dR_put_163 : decode cR_put 163 = .ok (.bipush 15, 2) := by decide +kernel
theorem dR_put_165 : decode cR_put 165 = .ok (.iload 6, 2) := by decide +kernel
theorem dR_put_167 : decode cR_put 167 = .ok (.iadd, 1) := by decide +kernel
theorem dR_put_168 : decode cR_put 168 = .ok (.lload_n 1, 1) := by decide +kernel
theorem dR_put_169 : decode cR_put 169 = .ok (.lastore, 1) := by decide +kernel
theorem dR_put_170 : decode cR_put 170 = .ok (.aload_n 0, 1) := by decide +kernel
theorem dR_put_171 : decode cR_put 171 = .ok (.getfield 27, 3) := by decide +kernel
theorem dR_put_174 : decode cR_put 174 = .ok (.bipush 23, 2) := by decide +kernel
theorem dR_put_176 : decode cR_put 176 = .ok (.iload 6, 2) := by decide +kernel
theorem dR_put_178 : decode cR_put 178 = .ok (.iadd, 1) := by decide +kernel
theorem dR_put_179 : decode cR_put 179 = .ok (.lload_n 3, 1) := by decide +kernel
theorem dR_put_180 : decode cR_put 180 = .ok (.lastore, 1) := by decide +kernel
theorem dR_put_181 : decode cR_put 181 = .ok (.iload 5, 2) := by decide +kernel
theorem dR_put_183 : decode cR_put 183 = .ok (.iload 7, 2) := by decide +kernel
theorem dR_put_185 : decode cR_put 185 = .ok (.ifCond .eq 7, 3) := by decide +kernel
theorem dR_put_188 : decode cR_put 188 = .ok (.iconst 1, 1) := by decide +kernel
theorem dR_put_189 : decode cR_put 189 = .ok (.goto 4, 3) := by decide +kernel
theorem dR_put_192 : decode cR_put 192 = .ok (.iconst 0, 1) := by decide +kernel
theorem dR_put_193 : decode cR_put 193 = .ok (.iadd, 1) := by decide +kernel
theorem dR_put_194 : decode cR_put 194 = .ok (.istore 5, 2) := by decide +kernel
theorem dR_put_196 : decode cR_put 196 = .ok (.aload_n 0, 1) := by decide +kernel
theorem dR_put_197 : decode cR_put 197 = .ok (.getfield 27, 3) := by decide +kernel
theorem dR_put_200 : decode cR_put 200 = .ok (.bipush 14, 2) := by decide +kernel
theorem dR_put_202 : decode cR_put 202 = .ok (.iload 5, 2) := by decide +kernel
theorem dR_put_204 : decode cR_put 204 = .ok (.i2l, 1) := by decide +kernel
theorem dR_put_205 : decode cR_put 205 = .ok (.lastore, 1) := by decide +kernel
theorem dR_put_206 : decode cR_put 206 = .ok (.aload_n 0, 1) := by decide +kernel
theorem dR_put_207 : decode cR_put 207 = .ok (.invokevirtual 122, 3) := by decide +kernel
theorem dR_put_210 : decode cR_put 210 = .ok (.aload_n 0, 1) := by decide +kernel
theorem dR_put_211 : decode cR_put 211 = .ok (.getfield 49, 3) := by decide +kernel
theorem dR_put_214 : decode cR_put 214 = .ok (.ifCond .le 7, 3) := by decide +kernel
theorem dR_put_217 : decode cR_put 217 = .ok (.iconst 0, 1) := by decide +kernel
theorem dR_put_218 : decode cR_put 218 = .ok (.goto 5, 3) := by decide +kernel
theorem dR_put_221 : decode cR_put 221 = .ok (.iload 5, 2) := by decide +kernel
theorem dR_put_223 : decode cR_put 223 = .ok (.ireturn, 1) := by decide +kernel
theorem dR_below_0 : decode cR_below 0 = .ok (.iconst 0, 1) := by decide +kernel
theorem dR_below_1 : decode cR_below 1 = .ok (.istore_n 3, 1) := by decide +kernel
theorem dR_below_2 : decode cR_below 2 = .ok (.iconst 0, 1) := by decide +kernel
theorem dR_below_3 : decode cR_below 3 = .ok (.istore 4, 2) := by decide +kernel
theorem dR_below_5 : decode cR_below 5 = .ok (.iload 4, 2) := by decide +kernel
theorem dR_below_7 : decode cR_below 7 = .ok (.i2l, 1) := by decide +kernel
theorem dR_below_8 : decode cR_below 8 = .ok (.aload_n 0, 1) := by decide +kernel
theorem dR_below_9 : decode cR_below 9 = .ok (.getfield 27, 3) := by decide +kernel
theorem dR_below_12 : decode cR_below 12 = .ok (.bipush 14, 2) := by decide +kernel
theorem dR_below_14 : decode cR_below 14 = .ok (.laload, 1) := by decide +kernel
theorem dR_below_15 : decode cR_below 15 = .ok (.lcmp, 1) := by decide +kernel
theorem dR_below_16 : decode cR_below 16 = .ok (.ifCond .ge 32, 3) := by decide +kernel
theorem dR_below_19 : decode cR_below 19 = .ok (.iload_n 3, 1) := by decide +kernel
theorem dR_below_20 : decode cR_below 20 = .ok (.aload_n 0, 1) := by decide +kernel
theorem dR_below_21 : decode cR_below 21 = .ok (.getfield 27, 3) := by decide +kernel
theorem dR_below_24 : decode cR_below 24 = .ok (.bipush 15, 2) := by decide +kernel
theorem dR_below_26 : decode cR_below 26 = .ok (.iload 4, 2) := by decide +kernel
theorem dR_below_28 : decode cR_below 28 = .ok (.iadd, 1) := by decide +kernel
theorem dR_below_29 : decode cR_below 29 = .ok (.laload, 1) := by decide +kernel
theorem dR_below_30 : decode cR_below 30 = .ok (.lload_n 1, 1) := by decide +kernel
theorem dR_below_31 : decode cR_below 31 = .ok (.lcmp, 1) := by decide +kernel
theorem dR_below_32 : decode cR_below 32 = .ok (.ifCond .ge 7, 3) := by decide +kernel
theorem dR_below_35 : decode cR_below 35 = .ok (.iconst 1, 1) := by decide +kernel
theorem dR_below_36 : decode cR_below 36 = .ok (.goto 4, 3) := by decide +kernel
theorem dR_below_39 : decode cR_below 39 = .ok (.iconst 0, 1) := by decide +kernel
theorem dR_below_40 : decode cR_below 40 = .ok (.iadd, 1) := by decide +kernel
theorem dR_below_41 : decode cR_below 41 = .ok (.istore_n 3, 1) := by decide +kernel
theorem dR_below_42 : decode cR_below 42 = .ok (.iinc 4 1, 3) := by decide +kernel
theorem dR_below_45 : decode cR_below 45 = .ok (.goto (-40), 3) := by decide +kernel
theorem dR_below_48 : decode cR_below 48 = .ok (.iload_n 3, 1) := by decide +kernel
theorem dR_below_49 : decode cR_below 49 = .ok (.ireturn, 1) := by decide +kernel
theorem dR_isKey_0 : decode cR_isKey 0 = .ok (.iload_n 1, 1) := by decide +kernel
theorem dR_isKey_1 : decode cR_isKey 1 = .ok (.i2l, 1) := by decide +kernel
theorem dR_isKey_2 : decode cR_isKey 2 = .ok (.aload_n 0, 1) := by decide +kernel
theorem dR_isKey_3 : decode cR_isKey 3 = .ok (.getfield 27, 3) := by decide +kernel
theorem dR_isKey_6 : decode cR_isKey 6 = .ok (.bipush 14, 2) := by decide +kernel
theorem dR_isKey_8 : decode cR_isKey 8 = .ok (.laload, 1) := by decide +kernel
theorem dR_isKey_9 : decode cR_isKey 9 = .ok (.lcmp, 1) := by decide +kernel
theorem dR_isKey_10 : decode cR_isKey 10 = .ok (.ifCond .ge 31, 3) := by decide +kernel
theorem dR_isKey_13 : decode cR_isKey 13 = .ok (.aload_n 0, 1) := by decide +kernel
theorem dR_isKey_14 : decode cR_isKey 14 = .ok (.getfield 27, 3) := by decide +kernel
theorem dR_isKey_17 : decode cR_isKey 17 = .ok (.bipush 15, 2) := by decide +kernel
theorem dR_isKey_19 : decode cR_isKey 19 = .ok (.iload_n 1, 1) := by decide +kernel
theorem dR_isKey_20 : decode cR_isKey 20 = .ok (.bipush 8, 2) := by decide +kernel
theorem dR_isKey_22 : decode cR_isKey 22 = .ok (.if_icmp .ge 7, 3) := by decide +kernel
theorem dR_isKey_25 : decode cR_isKey 25 = .ok (.iload_n 1, 1) := by decide +kernel
theorem dR_isKey_26 : decode cR_isKey 26 = .ok (.goto 4, 3) := by decide +kernel
theorem dR_isKey_29 : decode cR_isKey 29 = .ok (.iconst 0, 1) := by decide +kernel
theorem dR_isKey_30 : decode cR_isKey 30 = .ok (.iadd, 1) := by decide +kernel
theorem dR_isKey_31 : decode cR_isKey 31 = .ok (.laload, 1) := by decide +kernel
theorem dR_isKey_32 : decode cR_isKey 32 = .ok (.lload_n 2, 1) := by decide +kernel
theorem dR_isKey_33 : decode cR_isKey 33 = .ok (.lcmp, 1) := by decide +kernel
theorem dR_isKey_34 : decode cR_isKey 34 = .ok (.ifCond .ne 7, 3) := by decide +kernel
theorem dR_isKey_37 : decode cR_isKey 37 = .ok (.iconst 1, 1) := by decide +kernel
theorem dR_isKey_38 : decode cR_isKey 38 = .ok (.goto 4, 3) := by decide +kernel
theorem dR_isKey_41 : decode cR_isKey 41 = .ok (.iconst 0, 1) := by decide +kernel
theorem dR_isKey_42 : decode cR_isKey 42 = .ok (.ireturn, 1) := by decide +kernel
theorem dR_cut_0 : decode cR_cut 0 = .ok (.aload_n 0, 1) := by decide +kernel
theorem dR_cut_1 : decode cR_cut 1 = .ok (.aload_n 0, 1) := by decide +kernel
theorem dR_cut_2 : decode cR_cut 2 = .ok (.getfield 53, 3) := by decide +kernel
theorem dR_cut_5 : decode cR_cut 5 = .ok (.ifCond .eq 7, 3) := by decide +kernel
theorem dR_cut_8 : decode cR_cut 8 = .ok (.iconst 1, 1) := by decide +kernel
theorem dR_cut_9 : decode cR_cut 9 = .ok (.goto 4, 3) := by decide +kernel
theorem dR_cut_12 : decode cR_cut 12 = .ok (.iconst 0, 1) := by decide +kernel
theorem dR_cut_13 : decode cR_cut 13 = .ok (.putfield 49, 3) := by decide +kernel
theorem dR_cut_16 : decode cR_cut 16 = .ok (.aload_n 0, 1) := by decide +kernel
theorem dR_cut_17 : decode cR_cut 17 = .ok (.getfield 49, 3) := by decide +kernel
theorem dR_cut_20 : decode cR_cut 20 = .ok (.ifCond .le 5, 3) := by decide +kernel
theorem dR_cut_23 : decode cR_cut 23 = .ok (.iconst 0, 1) := by decide +kernel
theorem dR_cut_24 : decode cR_cut 24 = .ok (.ireturn, 1) := by decide +kernel
theorem dR_cut_25 : decode cR_cut 25 = .ok (.aload_n 0, 1) := by decide +kernel
theorem dR_cut_26 : decode cR_cut 26 = .ok (.invokevirtual 119, 3) := by decide +kernel
theorem dR_cut_29 : decode cR_cut 29 = .ok (.aload_n 0, 1) := by decide +kernel
theorem dR_cut_30 : decode cR_cut 30 = .ok (.getfield 27, 3) := by decide +kernel
theorem dR_cut_33 : decode cR_cut 33 = .ok (.bipush 14, 2) := by decide +kernel
theorem dR_cut_35 : decode cR_cut 35 = .ok (.laload, 1) := by decide +kernel
theorem dR_cut_36 : decode cR_cut 36 = .ok (.l2i, 1) := by decide +kernel
theorem dR_cut_37 : decode cR_cut 37 = .ok (.istore_n 3, 1) := by decide +kernel
theorem dR_cut_38 : decode cR_cut 38 = .ok (.aload_n 0, 1) := by decide +kernel
theorem dR_cut_39 : decode cR_cut 39 = .ok (.lload_n 1, 1) := by decide +kernel
theorem dR_cut_40 : decode cR_cut 40 = .ok (.invokevirtual 125, 3) := by decide +kernel
theorem dR_cut_43 : decode cR_cut 43 = .ok (.istore 4, 2) := by decide +kernel
theorem dR_cut_45 : decode cR_cut 45 = .ok (.aload_n 0, 1) := by decide +kernel
theorem dR_cut_46 : decode cR_cut 46 = .ok (.iload 4, 2) := by decide +kernel
theorem dR_cut_48 : decode cR_cut 48 = .ok (.lload_n 1, 1) := by decide +kernel
theorem dR_cut_49 : decode cR_cut 49 = .ok (.invokevirtual 129, 3) := by decide +kernel
theorem dR_cut_52 : decode cR_cut 52 = .ok (.ifCond .ne 5, 3) := by decide +kernel
theorem dR_cut_55 : decode cR_cut 55 = .ok (.iconst 0, 1) := by decide +kernel
theorem dR_cut_56 : decode cR_cut 56 = .ok (.ireturn, 1) := by decide +kernel
theorem dR_cut_57 : decode cR_cut 57 = .ok (.iload 4, 2) := by decide +kernel
theorem dR_cut_59 : decode cR_cut 59 = .ok (.istore 5, 2) := by decide +kernel
theorem dR_cut_61 : decode cR_cut 61 = .ok (.iload 5, 2) := by decide +kernel
theorem dR_cut_63 : decode cR_cut 63 = .ok (.iconst 1, 1) := by decide +kernel
theorem dR_cut_64 : decode cR_cut 64 = .ok (.iadd, 1) := by decide +kernel
theorem dR_cut_65 : decode cR_cut 65 = .ok (.iload_n 3, 1) := by decide +kernel
theorem dR_cut_66 : decode cR_cut 66 = .ok (.if_icmp .ge 53, 3) := by decide +kernel
theorem dR_cut_69 : decode cR_cut 69 = .ok (.aload_n 0, 1) := by decide +kernel
theorem dR_cut_70 : decode cR_cut 70 = .ok (.getfield 27, 3) := by decide +kernel
theorem dR_cut_73 : decode cR_cut 73 = .ok (.bipush 15, 2) := by decide +kernel
theorem dR_cut_75 : decode cR_cut 75 = .ok (.iload 5, 2) := by decide +kernel
theorem dR_cut_77 : decode cR_cut 77 = .ok (.iadd, 1) := by decide +kernel
theorem dR_cut_78 : decode cR_cut 78 = .ok (.aload_n 0, 1) := by decide +kernel
theorem dR_cut_79 : decode cR_cut 79 = .ok (.getfield 27, 3) := by decide +kernel
theorem dR_cut_82 : decode cR_cut 82 = .ok (.bipush 15, 2) := by decide +kernel
theorem dR_cut_84 : decode cR_cut 84 = .ok (.iload 5, 2) := by decide +kernel
theorem dR_cut_86 : decode cR_cut 86 = .ok (.iadd, 1) := by decide +kernel
theorem dR_cut_87 : decode cR_cut 87 = .ok (.iconst 1, 1) := by decide +kernel
theorem dR_cut_88 : decode cR_cut 88 = .ok (.iadd, 1) := by decide +kernel
theorem dR_cut_89 : decode cR_cut 89 = .ok (.laload, 1) := by decide +kernel
theorem dR_cut_90 : decode cR_cut 90 = .ok (.lastore, 1) := by decide +kernel
theorem dR_cut_91 : decode cR_cut 91 = .ok (.aload_n 0, 1) := by decide +kernel
theorem dR_cut_92 : decode cR_cut 92 = .ok (.getfield 27, 3) := by decide +kernel
theorem dR_cut_95 : decode cR_cut 95 = .ok (.bipush 23, 2) := by decide +kernel
theorem dR_cut_97 : decode cR_cut 97 = .ok (.iload 5, 2) := by decide +kernel
theorem dR_cut_99 : decode cR_cut 99 = .ok (.iadd, 1) := by decide +kernel
theorem dR_cut_100 : decode cR_cut 100 = .ok (.aload_n 0, 1) := by decide +kernel
theorem dR_cut_101 : decode cR_cut 101 = .ok (.getfield 27, 3) := by decide +kernel
theorem dR_cut_104 : decode cR_cut 104 = .ok (.bipush 23, 2) := by decide +kernel
theorem dR_cut_106 : decode cR_cut 106 = .ok (.iload 5, 2) := by decide +kernel
theorem dR_cut_108 : decode cR_cut 108 = .ok (.iadd, 1) := by decide +kernel
theorem dR_cut_109 : decode cR_cut 109 = .ok (.iconst 1, 1) := by decide +kernel
theorem dR_cut_110 : decode cR_cut 110 = .ok (.iadd, 1) := by decide +kernel
theorem dR_cut_111 : decode cR_cut 111 = .ok (.laload, 1) := by decide +kernel
theorem dR_cut_112 : decode cR_cut 112 = .ok (.lastore, 1) := by decide +kernel
theorem dR_cut_113 : decode cR_cut 113 = .ok (.iinc 5 1, 3) := by decide +kernel
theorem dR_cut_116 : decode cR_cut 116 = .ok (.goto (-55), 3) := by decide +kernel
theorem dR_cut_119 : decode cR_cut 119 = .ok (.aload_n 0, 1) := by decide +kernel
theorem dR_cut_120 : decode cR_cut 120 = .ok (.getfield 27, 3) := by decide +kernel
theorem dR_cut_123 : decode cR_cut 123 = .ok (.bipush 14, 2) := by decide +kernel
theorem dR_cut_125 : decode cR_cut 125 = .ok (.iload_n 3, 1) := by decide +kernel
theorem dR_cut_126 : decode cR_cut 126 = .ok (.iconst 1, 1) := by decide +kernel
theorem dR_cut_127 : decode cR_cut 127 = .ok (.isub, 1) := by decide +kernel
theorem dR_cut_128 : decode cR_cut 128 = .ok (.i2l, 1) := by decide +kernel
theorem dR_cut_129 : decode cR_cut 129 = .ok (.lastore, 1) := by decide +kernel
theorem dR_cut_130 : decode cR_cut 130 = .ok (.aload_n 0, 1) := by decide +kernel
theorem dR_cut_131 : decode cR_cut 131 = .ok (.invokevirtual 122, 3) := by decide +kernel
theorem dR_cut_134 : decode cR_cut 134 = .ok (.aload_n 0, 1) := by decide +kernel
theorem dR_cut_135 : decode cR_cut 135 = .ok (.getfield 49, 3) := by decide +kernel
theorem dR_cut_138 : decode cR_cut 138 = .ok (.ifCond .ne 7, 3) := by decide +kernel
theorem dR_cut_141 : decode cR_cut 141 = .ok (.iconst 1, 1) := by decide +kernel
theorem dR_cut_142 : decode cR_cut 142 = .ok (.goto 4, 3) := by decide +kernel
theorem dR_cut_145 : decode cR_cut 145 = .ok (.iconst 0, 1) := by decide +kernel
theorem dR_cut_146 : decode cR_cut 146 = .ok (.ireturn, 1) := by decide +kernel
theorem dR_next_0 : decode cR_next 0 = .ok (.aload_n 0, 1) := by decide +kernel
theorem dR_next_1 : decode cR_next 1 = .ok (.aload_n 0, 1) := by decide +kernel
theorem dR_next_2 : decode cR_next 2 = .ok (.getfield 53, 3) := by decide +kernel
theorem dR_next_5 : decode cR_next 5 = .ok (.ifCond .eq 7, 3) := by decide +kernel
theorem dR_next_8 : decode cR_next 8 = .ok (.iconst 1, 1) := by decide +kernel
theorem dR_next_9 : decode cR_next 9 = .ok (.goto 4, 3) := by decide +kernel
theorem dR_next_12 : decode cR_next 12 = .ok (.iconst 0, 1) := by decide +kernel
theorem dR_next_13 : decode cR_next 13 = .ok (.putfield 49, 3) := by decide +kernel
theorem dR_next_16 : decode cR_next 16 = .ok (.aload_n 0, 1) := by decide +kernel
theorem dR_next_17 : decode cR_next 17 = .ok (.getfield 49, 3) := by decide +kernel
theorem dR_next_20 : decode cR_next 20 = .ok (.ifCond .le 5, 3) := by decide +kernel
theorem dR_next_23 : decode cR_next 23 = .ok (.lconst 0, 1) := by decide +kernel
theorem dR_next_24 : decode cR_next 24 = .ok (.lreturn, 1) := by decide +kernel
theorem dR_next_25 : decode cR_next 25 = .ok (.aload_n 0, 1) := by decide +kernel
theorem dR_next_26 : decode cR_next 26 = .ok (.invokevirtual 119, 3) := by decide +kernel
theorem dR_next_29 : decode cR_next 29 = .ok (.aload_n 0, 1) := by decide +kernel
theorem dR_next_30 : decode cR_next 30 = .ok (.lload_n 1, 1) := by decide +kernel
theorem dR_next_31 : decode cR_next 31 = .ok (.invokevirtual 125, 3) := by decide +kernel
theorem dR_next_34 : decode cR_next 34 = .ok (.istore 4, 2) := by decide +kernel
theorem dR_next_36 : decode cR_next 36 = .ok (.aload_n 0, 1) := by decide +kernel
theorem dR_next_37 : decode cR_next 37 = .ok (.iload 4, 2) := by decide +kernel
theorem dR_next_39 : decode cR_next 39 = .ok (.i2l, 1) := by decide +kernel
theorem dR_next_40 : decode cR_next 40 = .ok (.aload_n 0, 1) := by decide +kernel
theorem dR_next_41 : decode cR_next 41 = .ok (.getfield 27, 3) := by decide +kernel
theorem dR_next_44 : decode cR_next 44 = .ok (.bipush 14, 2) := by decide +kernel
theorem dR_next_46 : decode cR_next 46 = .ok (.laload, 1) := by decide +kernel
theorem dR_next_47 : decode cR_next 47 = .ok (.lcmp, 1) := by decide +kernel
theorem dR_next_48 : decode cR_next 48 = .ok (.ifCond .ge 7, 3) := by decide +kernel
theorem dR_next_51 : decode cR_next 51 = .ok (.iconst 0, 1) := by decide +kernel
theorem dR_next_52 : decode cR_next 52 = .ok (.goto 4, 3) := by decide +kernel
theorem dR_next_55 : decode cR_next 55 = .ok (.iconst 2, 1) := by decide +kernel
theorem dR_next_56 : decode cR_next 56 = .ok (.putfield 49, 3) := by decide +kernel
theorem dR_next_59 : decode cR_next 59 = .ok (.aload_n 0, 1) := by decide +kernel
theorem dR_next_60 : decode cR_next 60 = .ok (.getfield 49, 3) := by decide +kernel
theorem dR_next_63 : decode cR_next 63 = .ok (.ifCond .le 7, 3) := by decide +kernel
theorem dR_next_66 : decode cR_next 66 = .ok (.lconst 0, 1) := by decide +kernel
theorem dR_next_67 : decode cR_next 67 = .ok (.goto 30, 3) := by decide +kernel
theorem dR_next_70 : decode cR_next 70 = .ok (.iload_n 3, 1) := by decide +kernel
theorem dR_next_71 : decode cR_next 71 = .ok (.ifCond .eq 16, 3) := by decide +kernel
theorem dR_next_74 : decode cR_next 74 = .ok (.aload_n 0, 1) := by decide +kernel
theorem dR_next_75 : decode cR_next 75 = .ok (.getfield 27, 3) := by decide +kernel
theorem dR_next_78 : decode cR_next 78 = .ok (.bipush 15, 2) := by decide +kernel
theorem dR_next_80 : decode cR_next 80 = .ok (.iload 4, 2) := by decide +kernel
theorem dR_next_82 : decode cR_next 82 = .ok (.iadd, 1) := by decide +kernel
theorem dR_next_83 : decode cR_next 83 = .ok (.laload, 1) := by decide +kernel
theorem dR_next_84 : decode cR_next 84 = .ok (.goto 13, 3) := by decide +kernel
theorem dR_next_87 : decode cR_next 87 = .ok (.aload_n 0, 1) := by decide +kernel
theorem dR_next_88 : decode cR_next 88 = .ok (.getfield 27, 3) := by decide +kernel
theorem dR_next_91 : decode cR_next 91 = .ok (.bipush 23, 2) := by decide +kernel
theorem dR_next_93 : decode cR_next 93 = .ok (.iload 4, 2) := by decide +kernel
theorem dR_next_95 : decode cR_next 95 = .ok (.iadd, 1) := by decide +kernel
theorem dR_next_96 : decode cR_next 96 = .ok (.laload, 1) := by decide +kernel
theorem dR_next_97 : decode cR_next 97 = .ok (.lreturn, 1) := by decide +kernel
theorem dR_counter_0 : decode cR_counter 0 = .ok (.aload_n 0, 1) := by decide +kernel
theorem dR_counter_1 : decode cR_counter 1 = .ok (.aload_n 0, 1) := by decide +kernel
theorem dR_counter_2 : decode cR_counter 2 = .ok (.getfield 53, 3) := by decide +kernel
theorem dR_counter_5 : decode cR_counter 5 = .ok (.ifCond .eq 7, 3) := by decide +kernel
theorem dR_counter_8 : decode cR_counter 8 = .ok (.iconst 1, 1) := by decide +kernel
theorem dR_counter_9 : decode cR_counter 9 = .ok (.goto 16, 3) := by decide +kernel
theorem dR_counter_12 : decode cR_counter 12 = .ok (.iload_n 1, 1) := by decide +kernel
theorem dR_counter_13 : decode cR_counter 13 = .ok (.i2l, 1) := by decide +kernel
theorem dR_counter_14 : decode cR_counter 14 = .ok (.invokestatic 115, 3) := by decide +kernel
theorem dR_counter_17 : decode cR_counter 17 = .ok (.ifCond .ne 7, 3) := by decide +kernel
theorem dR_counter_20 : decode cR_counter 20 = .ok (.iconst 2, 1) := by decide +kernel
theorem dR_counter_21 : decode cR_counter 21 = .ok (.goto 4, 3) := by decide +kernel
theorem dR_counter_24 : decode cR_counter 24 = .ok (.iconst 0, 1) := by decide +kernel
theorem dR_counter_25 : decode cR_counter 25 = .ok (.putfield 49, 3) := by decide +kernel
theorem dR_counter_28 : decode cR_counter 28 = .ok (.aload_n 0, 1) := by decide +kernel
theorem dR_counter_29 : decode cR_counter 29 = .ok (.getfield 49, 3) := by decide +kernel
theorem dR_counter_32 : decode cR_counter 32 = .ok (.ifCond .le 5, 3) := by decide +kernel
theorem dR_counter_35 : decode cR_counter 35 = .ok (.lconst 0, 1) := by decide +kernel
theorem dR_counter_36 : decode cR_counter 36 = .ok (.lreturn, 1) := by decide +kernel
theorem dR_counter_37 : decode cR_counter 37 = .ok (.aload_n 0, 1) := by decide +kernel
theorem dR_counter_38 : decode cR_counter 38 = .ok (.invokevirtual 119, 3) := by decide +kernel
theorem dR_counter_41 : decode cR_counter 41 = .ok (.aload_n 0, 1) := by decide +kernel
theorem dR_counter_42 : decode cR_counter 42 = .ok (.getfield 27, 3) := by decide +kernel
theorem dR_counter_45 : decode cR_counter 45 = .ok (.iload_n 1, 1) := by decide +kernel
theorem dR_counter_46 : decode cR_counter 46 = .ok (.laload, 1) := by decide +kernel
theorem dR_counter_47 : decode cR_counter 47 = .ok (.lreturn, 1) := by decide +kernel
theorem dR_queued_0 : decode cR_queued 0 = .ok (.aload_n 0, 1) := by decide +kernel
theorem dR_queued_1 : decode cR_queued 1 = .ok (.aload_n 0, 1) := by decide +kernel
theorem dR_queued_2 : decode cR_queued 2 = .ok (.getfield 53, 3) := by decide +kernel
theorem dR_queued_5 : decode cR_queued 5 = .ok (.ifCond .eq 7, 3) := by decide +kernel
theorem dR_queued_8 : decode cR_queued 8 = .ok (.iconst 1, 1) := by decide +kernel
theorem dR_queued_9 : decode cR_queued 9 = .ok (.goto 12, 3) := by decide +kernel
theorem dR_queued_12 : decode cR_queued 12 = .ok (.iload_n 1, 1) := by decide +kernel
theorem dR_queued_13 : decode cR_queued 13 = .ok (.ifCond .ge 7, 3) := by decide +kernel
theorem dR_queued_16 : decode cR_queued 16 = .ok (.iconst 2, 1) := by decide +kernel
theorem dR_queued_17 : decode cR_queued 17 = .ok (.goto 4, 3) := by decide +kernel
theorem dR_queued_20 : decode cR_queued 20 = .ok (.iconst 0, 1) := by decide +kernel
theorem dR_queued_21 : decode cR_queued 21 = .ok (.putfield 49, 3) := by decide +kernel
theorem dR_queued_24 : decode cR_queued 24 = .ok (.aload_n 0, 1) := by decide +kernel
theorem dR_queued_25 : decode cR_queued 25 = .ok (.getfield 49, 3) := by decide +kernel
theorem dR_queued_28 : decode cR_queued 28 = .ok (.ifCond .le 5, 3) := by decide +kernel
theorem dR_queued_31 : decode cR_queued 31 = .ok (.lconst 0, 1) := by decide +kernel
theorem dR_queued_32 : decode cR_queued 32 = .ok (.lreturn, 1) := by decide +kernel
theorem dR_queued_33 : decode cR_queued 33 = .ok (.aload_n 0, 1) := by decide +kernel
theorem dR_queued_34 : decode cR_queued 34 = .ok (.invokevirtual 119, 3) := by decide +kernel
theorem dR_queued_37 : decode cR_queued 37 = .ok (.aload_n 0, 1) := by decide +kernel
theorem dR_queued_38 : decode cR_queued 38 = .ok (.iload_n 1, 1) := by decide +kernel
theorem dR_queued_39 : decode cR_queued 39 = .ok (.i2l, 1) := by decide +kernel
theorem dR_queued_40 : decode cR_queued 40 = .ok (.aload_n 0, 1) := by decide +kernel
theorem dR_queued_41 : decode cR_queued 41 = .ok (.getfield 27, 3) := by decide +kernel
theorem dR_queued_44 : decode cR_queued 44 = .ok (.iconst 5, 1) := by decide +kernel
theorem dR_queued_45 : decode cR_queued 45 = .ok (.laload, 1) := by decide +kernel
theorem dR_queued_46 : decode cR_queued 46 = .ok (.lcmp, 1) := by decide +kernel
theorem dR_queued_47 : decode cR_queued 47 = .ok (.ifCond .ge 7, 3) := by decide +kernel
theorem dR_queued_50 : decode cR_queued 50 = .ok (.iconst 0, 1) := by decide +kernel
theorem dR_queued_51 : decode cR_queued 51 = .ok (.goto 4, 3) := by decide +kernel
theorem dR_queued_54 : decode cR_queued 54 = .ok (.iconst 2, 1) := by decide +kernel
theorem dR_queued_55 : decode cR_queued 55 = .ok (.putfield 49, 3) := by decide +kernel
theorem dR_queued_58 : decode cR_queued 58 = .ok (.aload_n 0, 1) := by decide +kernel
theorem dR_queued_59 : decode cR_queued 59 = .ok (.getfield 49, 3) := by decide +kernel
theorem dR_queued_62 : decode cR_queued 62 = .ok (.ifCond .le 7, 3) := by decide +kernel
theorem dR_queued_65 : decode cR_queued 65 = .ok (.lconst 0, 1) := by decide +kernel
theorem dR_queued_66 : decode cR_queued 66 = .ok (.goto 23, 3) := by decide +kernel
theorem dR_queued_69 : decode cR_queued 69 = .ok (.aload_n 0, 1) := by decide +kernel
theorem dR_queued_70 : decode cR_queued 70 = .ok (.getfield 27, 3) := by decide +kernel
theorem dR_queued_73 : decode cR_queued 73 = .ok (.bipush 6, 2) := by decide +kernel
theorem dR_queued_75 : decode cR_queued 75 = .ok (.aload_n 0, 1) := by decide +kernel
theorem dR_queued_76 : decode cR_queued 76 = .ok (.getfield 27, 3) := by decide +kernel
theorem dR_queued_79 : decode cR_queued 79 = .ok (.iconst 4, 1) := by decide +kernel
theorem dR_queued_80 : decode cR_queued 80 = .ok (.laload, 1) := by decide +kernel
theorem dR_queued_81 : decode cR_queued 81 = .ok (.l2i, 1) := by decide +kernel
theorem dR_queued_82 : decode cR_queued 82 = .ok (.iload_n 1, 1) := by decide +kernel
theorem dR_queued_83 : decode cR_queued 83 = .ok (.iadd, 1) := by decide +kernel
theorem dR_queued_84 : decode cR_queued 84 = .ok (.bipush 8, 2) := by decide +kernel
theorem dR_queued_86 : decode cR_queued 86 = .ok (.irem, 1) := by decide +kernel
theorem dR_queued_87 : decode cR_queued 87 = .ok (.iadd, 1) := by decide +kernel
theorem dR_queued_88 : decode cR_queued 88 = .ok (.laload, 1) := by decide +kernel
theorem dR_queued_89 : decode cR_queued 89 = .ok (.lreturn, 1) := by decide +kernel
theorem dR_freeze_0 : decode cR_freeze 0 = .ok (.aload_n 0, 1) := by decide +kernel
theorem dR_freeze_1 : decode cR_freeze 1 = .ok (.aload_n 0, 1) := by decide +kernel
theorem dR_freeze_2 : decode cR_freeze 2 = .ok (.getfield 53, 3) := by decide +kernel
theorem dR_freeze_5 : decode cR_freeze 5 = .ok (.ifCond .eq 7, 3) := by decide +kernel
theorem dR_freeze_8 : decode cR_freeze 8 = .ok (.iconst 1, 1) := by decide +kernel
theorem dR_freeze_9 : decode cR_freeze 9 = .ok (.goto 17, 3) := by decide +kernel
theorem dR_freeze_12 : decode cR_freeze 12 = .ok (.iload_n 1, 1) := by decide +kernel
theorem dR_freeze_13 : decode cR_freeze 13 = .ok (.ifCond .lt 8, 3) := by decide +kernel
theorem dR_freeze_16 : decode cR_freeze 16 = .ok (.iload_n 1, 1) := by decide +kernel
theorem dR_freeze_17 : decode cR_freeze 17 = .ok (.iconst 1, 1) := by decide +kernel
theorem dR_freeze_18 : decode cR_freeze 18 = .ok (.if_icmp .le 7, 3) := by decide +kernel
theorem dR_freeze_21 : decode cR_freeze 21 = .ok (.iconst 2, 1) := by decide +kernel
theorem dR_freeze_22 : decode cR_freeze 22 = .ok (.goto 4, 3) := by decide +kernel
theorem dR_freeze_25 : decode cR_freeze 25 = .ok (.iconst 0, 1) := by decide +kernel
theorem dR_freeze_26 : decode cR_freeze 26 = .ok (.putfield 49, 3) := by decide +kernel
theorem dR_freeze_29 : decode cR_freeze 29 = .ok (.aload_n 0, 1) := by decide +kernel
theorem dR_freeze_30 : decode cR_freeze 30 = .ok (.getfield 49, 3) := by decide +kernel
theorem dR_freeze_33 : decode cR_freeze 33 = .ok (.ifCond .le 4, 3) := by decide +kernel
theorem dR_freeze_36 : decode cR_freeze 36 = .ok (.return_, 1) := by decide +kernel
theorem dR_freeze_37 : decode cR_freeze 37 = .ok (.aload_n 0, 1) := by decide +kernel
theorem dR_freeze_38 : decode cR_freeze 38 = .ok (.invokevirtual 119, 3) := by decide +kernel
theorem dR_freeze_41 : decode cR_freeze 41 = .ok (.aload_n 0, 1) := by decide +kernel
theorem dR_freeze_42 : decode cR_freeze 42 = .ok (.getfield 34, 3) := by decide +kernel
theorem dR_freeze_45 : decode cR_freeze 45 = .ok (.iload_n 1, 1) := by decide +kernel
theorem dR_freeze_46 : decode cR_freeze 46 = .ok (.iconst 1, 1) := by decide +kernel
theorem dR_freeze_47 : decode cR_freeze 47 = .ok (.bastore, 1) := by decide +kernel
theorem dR_freeze_48 : decode cR_freeze 48 = .ok (.iconst 0, 1) := by decide +kernel
theorem dR_freeze_49 : decode cR_freeze 49 = .ok (.istore_n 2, 1) := by decide +kernel
theorem dR_freeze_50 : decode cR_freeze 50 = .ok (.iload_n 2, 1) := by decide +kernel
theorem dR_freeze_51 : decode cR_freeze 51 = .ok (.iconst 4, 1) := by decide +kernel
theorem dR_freeze_52 : decode cR_freeze 52 = .ok (.if_icmp .ge 25, 3) := by decide +kernel
theorem dR_freeze_55 : decode cR_freeze 55 = .ok (.aload_n 0, 1) := by decide +kernel
theorem dR_freeze_56 : decode cR_freeze 56 = .ok (.getfield 37, 3) := by decide +kernel
theorem dR_freeze_59 : decode cR_freeze 59 = .ok (.iconst 4, 1) := by decide +kernel
theorem dR_freeze_60 : decode cR_freeze 60 = .ok (.iload_n 1, 1) := by decide +kernel
theorem dR_freeze_61 : decode cR_freeze 61 = .ok (.imul, 1) := by decide +kernel
theorem dR_freeze_62 : decode cR_freeze 62 = .ok (.iload_n 2, 1) := by decide +kernel
theorem dR_freeze_63 : decode cR_freeze 63 = .ok (.iadd, 1) := by decide +kernel
theorem dR_freeze_64 : decode cR_freeze 64 = .ok (.aload_n 0, 1) := by decide +kernel
theorem dR_freeze_65 : decode cR_freeze 65 = .ok (.getfield 27, 3) := by decide +kernel
theorem dR_freeze_68 : decode cR_freeze 68 = .ok (.iload_n 2, 1) := by decide +kernel
theorem dR_freeze_69 : decode cR_freeze 69 = .ok (.laload, 1) := by decide +kernel
theorem dR_freeze_70 : decode cR_freeze 70 = .ok (.lastore, 1) := by decide +kernel
theorem dR_freeze_71 : decode cR_freeze 71 = .ok (.iinc 2 1, 3) := by decide +kernel
theorem dR_freeze_74 : decode cR_freeze 74 = .ok (.goto (-24), 3) := by decide +kernel
theorem dR_freeze_77 : decode cR_freeze 77 = .ok (.aload_n 0, 1) := by decide +kernel
theorem dR_freeze_78 : decode cR_freeze 78 = .ok (.getfield 40, 3) := by decide +kernel
theorem dR_freeze_81 : decode cR_freeze 81 = .ok (.iload_n 1, 1) := by decide +kernel
theorem dR_freeze_82 : decode cR_freeze 82 = .ok (.aload_n 0, 1) := by decide +kernel
theorem dR_freeze_83 : decode cR_freeze 83 = .ok (.getfield 27, 3) := by decide +kernel
theorem dR_freeze_86 : decode cR_freeze 86 = .ok (.bipush 14, 2) := by decide +kernel
theorem dR_freeze_88 : decode cR_freeze 88 = .ok (.laload, 1) := by decide +kernel
theorem dR_freeze_89 : decode cR_freeze 89 = .ok (.l2i, 1) := by decide +kernel
theorem dR_freeze_90 : decode cR_freeze 90 = .ok (.iastore, 1) := by decide +kernel
theorem dR_freeze_91 : decode cR_freeze 91 = .ok (.iconst 0, 1) := by decide +kernel
theorem dR_freeze_92 : decode cR_freeze 92 = .ok (.istore_n 2, 1) := by decide +kernel
theorem dR_freeze_93 : decode cR_freeze 93 = .ok (.iload_n 2, 1) := by decide +kernel
theorem dR_freeze_94 : decode cR_freeze 94 = .ok (.aload_n 0, 1) := by decide +kernel
theorem dR_freeze_95 : decode cR_freeze 95 = .ok (.getfield 40, 3) := by decide +kernel
theorem dR_freeze_98 : decode cR_freeze 98 = .ok (.iload_n 1, 1) := by decide +kernel
theorem dR_freeze_99 : decode cR_freeze 99 = .ok (.iaload, 1) := by decide +kernel
theorem dR_freeze_100 : decode cR_freeze 100 = .ok (.if_icmp .ge 49, 3) := by decide +kernel
theorem dR_freeze_103 : decode cR_freeze 103 = .ok (.aload_n 0, 1) := by decide +kernel
theorem dR_freeze_104 : decode cR_freeze 104 = .ok (.getfield 43, 3) := by decide +kernel
theorem dR_freeze_107 : decode cR_freeze 107 = .ok (.bipush 8, 2) := by decide +kernel
theorem dR_freeze_109 : decode cR_freeze 109 = .ok (.iload_n 1, 1) := by decide +kernel
theorem dR_freeze_110 : decode cR_freeze 110 = .ok (.imul, 1) := by decide +kernel
theorem dR_freeze_111 : decode cR_freeze 111 = .ok (.iload_n 2, 1) := by decide +kernel
theorem dR_freeze_112 : decode cR_freeze 112 = .ok (.iadd, 1) := by decide +kernel
theorem dR_freeze_113 : decode cR_freeze 113 = .ok (.aload_n 0, 1) := by decide +kernel
theorem dR_freeze_114 : decode cR_freeze 114 = .ok (.getfield 27, 3) := by decide +kernel
theorem dR_freeze_117 : decode cR_freeze 117 = .ok (.bipush 15, 2) := by decide +kernel
theorem dR_freeze_119 : decode cR_freeze 119 = .ok (.iload_n 2, 1) := by decide +kernel
theorem dR_freeze_120 : decode cR_freeze 120 = .ok (.iadd, 1) := by decide +kernel
theorem dR_freeze_121 : decode cR_freeze 121 = .ok (.laload, 1) := by decide +kernel
theorem dR_freeze_122 : decode cR_freeze 122 = .ok (.lastore, 1) := by decide +kernel
theorem dR_freeze_123 : decode cR_freeze 123 = .ok (.aload_n 0, 1) := by decide +kernel
theorem dR_freeze_124 : decode cR_freeze 124 = .ok (.getfield 46, 3) := by decide +kernel
theorem dR_freeze_127 : decode cR_freeze 127 = .ok (.bipush 8, 2) := by decide +kernel
theorem dR_freeze_129 : decode cR_freeze 129 = .ok (.iload_n 1, 1) := by decide +kernel
theorem dR_freeze_130 : decode cR_freeze 130 = .ok (.imul, 1) := by decide +kernel
theorem dR_freeze_131 : decode cR_freeze 131 = .ok (.iload_n 2, 1) := by decide +kernel
theorem dR_freeze_132 : decode cR_freeze 132 = .ok (.iadd, 1) := by decide +kernel
theorem dR_freeze_133 : decode cR_freeze 133 = .ok (.aload_n 0, 1) := by decide +kernel
theorem dR_freeze_134 : decode cR_freeze 134 = .ok (.getfield 27, 3) := by decide +kernel
theorem dR_freeze_137 : decode cR_freeze 137 = .ok (.bipush 23, 2) := by decide +kernel
theorem dR_freeze_139 : decode cR_freeze 139 = .ok (.iload_n 2, 1) := by decide +kernel
theorem dR_freeze_140 : decode cR_freeze 140 = .ok (.iadd, 1) := by decide +kernel
theorem dR_freeze_141 : decode cR_freeze 141 = .ok (.laload, 1) := by decide +kernel
theorem dR_freeze_142 : decode cR_freeze 142 = .ok (.lastore, 1) := by decide +kernel
theorem dR_freeze_143 : decode cR_freeze 143 = .ok (.iinc 2 1, 3) := by decide +kernel
theorem dR_freeze_146 : decode cR_freeze 146 = .ok (.goto (-53), 3) := by decide +kernel
theorem dR_freeze_149 : decode cR_freeze 149 = .ok (.return_, 1) := by decide +kernel
theorem dR_frozen_0 : decode cR_frozen 0 = .ok (.aload_n 0, 1) := by decide +kernel
theorem dR_frozen_1 : decode cR_frozen 1 = .ok (.iload_n 1, 1) := by decide +kernel
theorem dR_frozen_2 : decode cR_frozen 2 = .ok (.ifCond .lt 8, 3) := by decide +kernel
theorem dR_frozen_5 : decode cR_frozen 5 = .ok (.iload_n 1, 1) := by decide +kernel
theorem dR_frozen_6 : decode cR_frozen 6 = .ok (.iconst 1, 1) := by decide +kernel
theorem dR_frozen_7 : decode cR_frozen 7 = .ok (.if_icmp .le 7, 3) := by decide +kernel
theorem dR_frozen_10 : decode cR_frozen 10 = .ok (.iconst 1, 1) := by decide +kernel
theorem dR_frozen_11 : decode cR_frozen 11 = .ok (.goto 4, 3) := by decide +kernel
theorem dR_frozen_14 : decode cR_frozen 14 = .ok (.iconst 0, 1) := by decide +kernel
theorem dR_frozen_15 : decode cR_frozen 15 = .ok (.putfield 49, 3) := by decide +kernel
theorem dR_frozen_18 : decode cR_frozen 18 = .ok (.aload_n 0, 1) := by decide +kernel
theorem dR_frozen_19 : decode cR_frozen 19 = .ok (.getfield 49, 3) := by decide +kernel
theorem dR_frozen_22 : decode cR_frozen 22 = .ok (.ifCond .le 5, 3) := by decide +kernel
theorem dR_frozen_25 : decode cR_frozen 25 = .ok (.lconst 0, 1) := by decide +kernel
theorem dR_frozen_26 : decode cR_frozen 26 = .ok (.lreturn, 1) := by decide +kernel
theorem dR_frozen_27 : decode cR_frozen 27 = .ok (.aload_n 0, 1) := by decide +kernel
theorem dR_frozen_28 : decode cR_frozen 28 = .ok (.aload_n 0, 1) := by decide +kernel
theorem dR_frozen_29 : decode cR_frozen 29 = .ok (.getfield 34, 3) := by decide +kernel
theorem dR_frozen_32 : decode cR_frozen 32 = .ok (.iload_n 1, 1) := by decide +kernel
theorem dR_frozen_33 : decode cR_frozen 33 = .ok (.baload, 1) := by decide +kernel
theorem dR_frozen_34 : decode cR_frozen 34 = .ok (.ifCond .eq 14, 3) := by decide +kernel
theorem dR_frozen_37 : decode cR_frozen 37 = .ok (.iload_n 2, 1) := by decide +kernel
theorem dR_frozen_38 : decode cR_frozen 38 = .ok (.ifCond .eq 14, 3) := by decide +kernel
theorem dR_frozen_41 : decode cR_frozen 41 = .ok (.lload_n 3, 1) := by decide +kernel
theorem dR_frozen_42 : decode cR_frozen 42 = .ok (.invokestatic 115, 3) := by decide +kernel
theorem dR_frozen_45 : decode cR_frozen 45 = .ok (.ifCond .ne 7, 3) := by decide +kernel
theorem dR_frozen_48 : decode cR_frozen 48 = .ok (.iconst 1, 1) := by decide +kernel
theorem dR_frozen_49 : decode cR_frozen 49 = .ok (.goto 4, 3) := by decide +kernel
theorem dR_frozen_52 : decode cR_frozen 52 = .ok (.iconst 0, 1) := by decide +kernel
theorem dR_frozen_53 : decode cR_frozen 53 = .ok (.putfield 49, 3) := by decide +kernel
theorem dR_frozen_56 : decode cR_frozen 56 = .ok (.aload_n 0, 1) := by decide +kernel
theorem dR_frozen_57 : decode cR_frozen 57 = .ok (.getfield 49, 3) := by decide +kernel
theorem dR_frozen_60 : decode cR_frozen 60 = .ok (.ifCond .gt 7, 3) := by decide +kernel
theorem dR_frozen_63 : decode cR_frozen 63 = .ok (.iload_n 2, 1) := by decide +kernel
theorem dR_frozen_64 : decode cR_frozen 64 = .ok (.ifCond .eq 26, 3) := by decide +kernel
theorem dR_frozen_67 : decode cR_frozen 67 = .ok (.aload_n 0, 1) := by decide +kernel
theorem dR_frozen_68 : decode cR_frozen 68 = .ok (.getfield 49, 3) := by decide +kernel
theorem dR_frozen_71 : decode cR_frozen 71 = .ok (.ifCond .le 7, 3) := by decide +kernel
theorem dR_frozen_74 : decode cR_frozen 74 = .ok (.lconst 0, 1) := by decide +kernel
theorem dR_frozen_75 : decode cR_frozen 75 = .ok (.goto 14, 3) := by decide +kernel
theorem dR_frozen_78 : decode cR_frozen 78 = .ok (.aload_n 0, 1) := by decide +kernel
theorem dR_frozen_79 : decode cR_frozen 79 = .ok (.getfield 37, 3) := by decide +kernel
theorem dR_frozen_82 : decode cR_frozen 82 = .ok (.iconst 4, 1) := by decide +kernel
theorem dR_frozen_83 : decode cR_frozen 83 = .ok (.iload_n 1, 1) := by decide +kernel
theorem dR_frozen_84 : decode cR_frozen 84 = .ok (.imul, 1) := by decide +kernel
theorem dR_frozen_85 : decode cR_frozen 85 = .ok (.lload_n 3, 1) := by decide +kernel
theorem dR_frozen_86 : decode cR_frozen 86 = .ok (.l2i, 1) := by decide +kernel
theorem dR_frozen_87 : decode cR_frozen 87 = .ok (.iadd, 1) := by decide +kernel
theorem dR_frozen_88 : decode cR_frozen 88 = .ok (.laload, 1) := by decide +kernel
theorem dR_frozen_89 : decode cR_frozen 89 = .ok (.lreturn, 1) := by decide +kernel
theorem dR_frozen_90 : decode cR_frozen 90 = .ok (.iconst 0, 1) := by decide +kernel
theorem dR_frozen_91 : decode cR_frozen 91 = .ok (.istore 5, 2) := by decide +kernel
theorem dR_frozen_93 : decode cR_frozen 93 = .ok (.iload 5, 2) := by decide +kernel
theorem dR_frozen_95 : decode cR_frozen 95 = .ok (.aload_n 0, 1) := by decide +kernel
theorem dR_frozen_96 : decode cR_frozen 96 = .ok (.getfield 40, 3) := by decide +kernel
theorem dR_frozen_99 : decode cR_frozen 99 = .ok (.iload_n 1, 1) := by decide +kernel
theorem dR_frozen_100 : decode cR_frozen 100 = .ok (.iaload, 1) := by decide +kernel
theorem dR_frozen_101 : decode cR_frozen 101 = .ok (.if_icmp .ge 39, 3) := by decide +kernel
theorem dR_frozen_104 : decode cR_frozen 104 = .ok (.aload_n 0, 1) := by decide +kernel
theorem dR_frozen_105 : decode cR_frozen 105 = .ok (.getfield 43, 3) := by decide +kernel
theorem dR_frozen_108 : decode cR_frozen 108 = .ok (.bipush 8, 2) := by decide +kernel
theorem dR_frozen_110 : decode cR_frozen 110 = .ok (.iload_n 1, 1) := by decide +kernel
theorem dR_frozen_111 : decode cR_frozen 111 = .ok (.imul, 1) := by decide +kernel
theorem dR_frozen_112 : decode cR_frozen 112 = .ok (.iload 5, 2) := by decide +kernel
theorem dR_frozen_114 : decode cR_frozen 114 = .ok (.iadd, 1) := by decide +kernel
theorem dR_frozen_115 : decode cR_frozen 115 = .ok (.laload, 1) := by decide +kernel
theorem dR_frozen_116 : decode cR_frozen 116 = .ok (.lload_n 3, 1) := by decide +kernel
theorem dR_frozen_117 : decode cR_frozen 117 = .ok (.lcmp, 1) := by decide +kernel
theorem dR_frozen_118 : decode cR_frozen 118 = .ok (.ifCond .ne 16, 3) := by decide +kernel
theorem dR_frozen_121 : decode cR_frozen 121 = .ok (.aload_n 0, 1) := by decide +kernel
theorem dR_frozen_122 : decode cR_frozen 122 = .ok (.getfield 46, 3) := by decide +kernel
theorem dR_frozen_125 : decode cR_frozen 125 = .ok (.bipush 8, 2) := by decide +kernel
theorem dR_frozen_127 : decode cR_frozen 127 = .ok (.iload_n 1, 1) := by decide +kernel
theorem dR_frozen_128 : decode cR_frozen 128 = .ok (.imul, 1) := by decide +kernel
theorem dR_frozen_129 : decode cR_frozen 129 = .ok (.iload 5, 2) := by decide +kernel
theorem dR_frozen_131 : decode cR_frozen 131 = .ok (.iadd, 1) := by decide +kernel
theorem dR_frozen_132 : decode cR_frozen 132 = .ok (.laload, 1) := by decide +kernel
theorem dR_frozen_133 : decode cR_frozen 133 = .ok (.lreturn, 1) := by decide +kernel
theorem dR_frozen_134 : decode cR_frozen 134 = .ok (.iinc 5 1, 3) := by decide +kernel
theorem dR_frozen_137 : decode cR_frozen 137 = .ok (.goto (-44), 3) := by decide +kernel
theorem dR_frozen_140 : decode cR_frozen 140 = .ok (.aload_n 0, 1) := by decide +kernel
theorem dR_frozen_141 : decode cR_frozen 141 = .ok (.iconst 1, 1) := by decide +kernel
theorem dR_frozen_142 : decode cR_frozen 142 = .ok (.putfield 49, 3) := by decide +kernel
theorem dR_frozen_145 : decode cR_frozen 145 = .ok (.lconst 0, 1) := by decide +kernel
theorem dR_frozen_146 : decode cR_frozen 146 = .ok (.lreturn, 1) := by decide +kernel
theorem dR_crash_0 : decode cR_crash 0 = .ok (.aload_n 0, 1) := by decide +kernel
theorem dR_crash_1 : decode cR_crash 1 = .ok (.aload_n 0, 1) := by decide +kernel
theorem dR_crash_2 : decode cR_crash 2 = .ok (.getfield 53, 3) := by decide +kernel
theorem dR_crash_5 : decode cR_crash 5 = .ok (.ifCond .eq 7, 3) := by decide +kernel
theorem dR_crash_8 : decode cR_crash 8 = .ok (.iconst 1, 1) := by decide +kernel
theorem dR_crash_9 : decode cR_crash 9 = .ok (.goto 4, 3) := by decide +kernel
theorem dR_crash_12 : decode cR_crash 12 = .ok (.iconst 0, 1) := by decide +kernel
theorem dR_crash_13 : decode cR_crash 13 = .ok (.putfield 49, 3) := by decide +kernel
theorem dR_crash_16 : decode cR_crash 16 = .ok (.aload_n 0, 1) := by decide +kernel
theorem dR_crash_17 : decode cR_crash 17 = .ok (.getfield 49, 3) := by decide +kernel
theorem dR_crash_20 : decode cR_crash 20 = .ok (.ifCond .ne 8, 3) := by decide +kernel
theorem dR_crash_23 : decode cR_crash 23 = .ok (.aload_n 0, 1) := by decide +kernel
theorem dR_crash_24 : decode cR_crash 24 = .ok (.iload_n 1, 1) := by decide +kernel
theorem dR_crash_25 : decode cR_crash 25 = .ok (.invokevirtual 69, 3) := by decide +kernel
theorem dR_crash_28 : decode cR_crash 28 = .ok (.return_, 1) := by decide +kernel
theorem dR_stop_0 : decode cR_stop 0 = .ok (.aload_n 0, 1) := by decide +kernel
theorem dR_stop_1 : decode cR_stop 1 = .ok (.iconst 0, 1) := by decide +kernel
theorem dR_stop_2 : decode cR_stop 2 = .ok (.putfield 49, 3) := by decide +kernel
theorem dR_stop_5 : decode cR_stop 5 = .ok (.iload_n 1, 1) := by decide +kernel
theorem dR_stop_6 : decode cR_stop 6 = .ok (.ifCond .ge 5, 3) := by decide +kernel
theorem dR_stop_9 : decode cR_stop 9 = .ok (.iconst 0, 1) := by decide +kernel
theorem dR_stop_10 : decode cR_stop 10 = .ok (.ireturn, 1) := by decide +kernel
theorem dR_stop_11 : decode cR_stop 11 = .ok (.aload_n 0, 1) := by decide +kernel
theorem dR_stop_12 : decode cR_stop 12 = .ok (.iload_n 1, 1) := by decide +kernel
theorem dR_stop_13 : decode cR_stop 13 = .ok (.putfield 30, 3) := by decide +kernel
theorem dR_stop_16 : decode cR_stop 16 = .ok (.aload_n 0, 1) := by decide +kernel
theorem dR_stop_17 : decode cR_stop 17 = .ok (.iload_n 2, 1) := by decide +kernel
theorem dR_stop_18 : decode cR_stop 18 = .ok (.putfield 66, 3) := by decide +kernel
theorem dR_stop_21 : decode cR_stop 21 = .ok (.iconst 1, 1) := by decide +kernel
theorem dR_stop_22 : decode cR_stop 22 = .ok (.ireturn, 1) := by decide +kernel
theorem dR_recover_0 : decode cR_recover 0 = .ok (.aload_n 0, 1) := by decide +kernel
theorem dR_recover_1 : decode cR_recover 1 = .ok (.aload_n 0, 1) := by decide +kernel
theorem dR_recover_2 : decode cR_recover 2 = .ok (.getfield 53, 3) := by decide +kernel
theorem dR_recover_5 : decode cR_recover 5 = .ok (.ifCond .eq 7, 3) := by decide +kernel
theorem dR_recover_8 : decode cR_recover 8 = .ok (.iconst 0, 1) := by decide +kernel
theorem dR_recover_9 : decode cR_recover 9 = .ok (.goto 4, 3) := by decide +kernel
theorem dR_recover_12 : decode cR_recover 12 = .ok (.iconst 1, 1) := by decide +kernel
theorem dR_recover_13 : decode cR_recover 13 = .ok (.putfield 49, 3) := by decide +kernel
theorem dR_recover_16 : decode cR_recover 16 = .ok (.aload_n 0, 1) := by decide +kernel
theorem dR_recover_17 : decode cR_recover 17 = .ok (.getfield 49, 3) := by decide +kernel
theorem dR_recover_20 : decode cR_recover 20 = .ok (.ifCond .le 5, 3) := by decide +kernel
theorem dR_recover_23 : decode cR_recover 23 = .ok (.iconst 0, 1) := by decide +kernel
theorem dR_recover_24 : decode cR_recover 24 = .ok (.ireturn, 1) := by decide +kernel
theorem dR_recover_25 : decode cR_recover 25 = .ok (.aload_n 0, 1) := by decide +kernel
theorem dR_recover_26 : decode cR_recover 26 = .ok (.iconst 0, 1) := by decide +kernel
theorem dR_recover_27 : decode cR_recover 27 = .ok (.putfield 63, 3) := by decide +kernel
theorem dR_recover_30 : decode cR_recover 30 = .ok (.aload_n 0, 1) := by decide +kernel
theorem dR_recover_31 : decode cR_recover 31 = .ok (.getfield 7, 3) := by decide +kernel
theorem dR_recover_34 : decode cR_recover 34 = .ok (.bipush 40, 2) := by decide +kernel
theorem dR_recover_36 : decode cR_recover 36 = .ok (.laload, 1) := by decide +kernel
theorem dR_recover_37 : decode cR_recover 37 = .ok (.l2i, 1) := by decide +kernel
theorem dR_recover_38 : decode cR_recover 38 = .ok (.istore_n 1, 1) := by decide +kernel
theorem dR_recover_39 : decode cR_recover 39 = .ok (.iconst 0, 1) := by decide +kernel
theorem dR_recover_40 : decode cR_recover 40 = .ok (.istore_n 2, 1) := by decide +kernel
theorem dR_recover_41 : decode cR_recover 41 = .ok (.iload_n 1, 1) := by decide +kernel
theorem dR_recover_42 : decode cR_recover 42 = .ok (.iconst 1, 1) := by decide +kernel
theorem dR_recover_43 : decode cR_recover 43 = .ok (.isub, 1) := by decide +kernel
theorem dR_recover_44 : decode cR_recover 44 = .ok (.istore_n 3, 1) := by decide +kernel
theorem dR_recover_45 : decode cR_recover 45 = .ok (.iload_n 3, 1) := by decide +kernel
theorem dR_recover_46 : decode cR_recover 46 = .ok (.ifCond .lt 54, 3) := by decide +kernel
theorem dR_recover_49 : decode cR_recover 49 = .ok (.aload_n 0, 1) := by decide +kernel
theorem dR_recover_50 : decode cR_recover 50 = .ok (.getfield 63, 3) := by decide +kernel
theorem dR_recover_53 : decode cR_recover 53 = .ok (.ifCond .ne 47, 3) := by decide +kernel
theorem dR_recover_56 : decode cR_recover 56 = .ok (.aload_n 0, 1) := by decide +kernel
theorem dR_recover_57 : decode cR_recover 57 = .ok (.getfield 7, 3) := by decide +kernel
theorem dR_recover_60 : decode cR_recover 60 = .ok (.bipush 48, 2) := by decide +kernel
theorem dR_recover_62 : decode cR_recover 62 = .ok (.iconst 2, 1) := by decide +kernel
theorem dR_recover_63 : decode cR_recover 63 = .ok (.iload_n 3, 1) := by decide +kernel
theorem dR_recover_64 : decode cR_recover 64 = .ok (.imul, 1) := by decide +kernel
theorem dR_recover_65 : decode cR_recover 65 = .ok (.iadd, 1) := by decide +kernel
theorem dR_recover_66 : decode cR_recover 66 = .ok (.laload, 1) := by decide +kernel
theorem dR_recover_67 : decode cR_recover 67 = .ok (.l2i, 1) := by decide +kernel
theorem dR_recover_68 : decode cR_recover 68 = .ok (.istore 4, 2) := by decide +kernel
theorem dR_recover_70 : decode cR_recover 70 = .ok (.iload_n 2, 1) := by decide +kernel
theorem dR_recover_71 : decode cR_recover 71 = .ok (.iconst 1, 1) := by decide +kernel
theorem dR_recover_72 : decode cR_recover 72 = .ok (.iload 4, 2) := by decide +kernel
theorem dR_recover_74 : decode cR_recover 74 = .ok (.ishl, 1) := by decide +kernel
theorem dR_recover_75 : decode cR_recover 75 = .ok (.ior, 1) := by decide +kernel
theorem dR_recover_76 : decode cR_recover 76 = .ok (.istore_n 2, 1) := by decide +kernel
theorem dR_recover_77 : decode cR_recover 77 = .ok (.aload_n 0, 1) := by decide +kernel
theorem dR_recover_78 : decode cR_recover 78 = .ok (.iload 4, 2) := by decide +kernel
theorem dR_recover_80 : decode cR_recover 80 = .ok (.aload_n 0, 1) := by decide +kernel
theorem dR_recover_81 : decode cR_recover 81 = .ok (.getfield 7, 3) := by decide +kernel
theorem dR_recover_84 : decode cR_recover 84 = .ok (.bipush 49, 2) := by decide +kernel
theorem dR_recover_86 : decode cR_recover 86 = .ok (.iconst 2, 1) := by decide +kernel
theorem dR_recover_87 : decode cR_recover 87 = .ok (.iload_n 3, 1) := by decide +kernel
theorem dR_recover_88 : decode cR_recover 88 = .ok (.imul, 1) := by decide +kernel
theorem dR_recover_89 : decode cR_recover 89 = .ok (.iadd, 1) := by decide +kernel
theorem dR_recover_90 : decode cR_recover 90 = .ok (.laload, 1) := by decide +kernel
theorem dR_recover_91 : decode cR_recover 91 = .ok (.invokevirtual 86, 3) := by decide +kernel
theorem dR_recover_94 : decode cR_recover 94 = .ok (.iinc 3 (-1), 3) := by decide +kernel
theorem dR_recover_97 : decode cR_recover 97 = .ok (.goto (-52), 3) := by decide +kernel
theorem dR_recover_100 : decode cR_recover 100 = .ok (.iload_n 1, 1) := by decide +kernel
theorem dR_recover_101 : decode cR_recover 101 = .ok (.ifCond .le 13, 3) := by decide +kernel
theorem dR_recover_104 : decode cR_recover 104 = .ok (.aload_n 0, 1) := by decide +kernel
theorem dR_recover_105 : decode cR_recover 105 = .ok (.iload_n 2, 1) := by decide +kernel
theorem dR_recover_106 : decode cR_recover 106 = .ok (.invokevirtual 104, 3) := by decide +kernel
theorem dR_recover_109 : decode cR_recover 109 = .ok (.aload_n 0, 1) := by decide +kernel
theorem dR_recover_110 : decode cR_recover 110 = .ok (.lconst 0, 1) := by decide +kernel
theorem dR_recover_111 : decode cR_recover 111 = .ok (.invokevirtual 100, 3) := by decide +kernel
theorem dR_recover_114 : decode cR_recover 114 = .ok (.aload_n 0, 1) := by decide +kernel
theorem dR_recover_115 : decode cR_recover 115 = .ok (.aload_n 0, 1) := by decide +kernel
theorem dR_recover_116 : decode cR_recover 116 = .ok (.getfield 63, 3) := by decide +kernel
theorem dR_recover_119 : decode cR_recover 119 = .ok (.putfield 53, 3) := by decide +kernel
theorem dR_recover_122 : decode cR_recover 122 = .ok (.aload_n 0, 1) := by decide +kernel
theorem dR_recover_123 : decode cR_recover 123 = .ok (.aload_n 0, 1) := by decide +kernel
theorem dR_recover_124 : decode cR_recover 124 = .ok (.getfield 63, 3) := by decide +kernel
theorem dR_recover_127 : decode cR_recover 127 = .ok (.ifCond .eq 7, 3) := by decide +kernel
theorem dR_recover_130 : decode cR_recover 130 = .ok (.iconst 1, 1) := by decide +kernel
theorem dR_recover_131 : decode cR_recover 131 = .ok (.goto 4, 3) := by decide +kernel
theorem dR_recover_134 : decode cR_recover 134 = .ok (.iconst 0, 1) := by decide +kernel
theorem dR_recover_135 : decode cR_recover 135 = .ok (.putfield 49, 3) := by decide +kernel
theorem dR_recover_138 : decode cR_recover 138 = .ok (.aload_n 0, 1) := by decide +kernel
theorem dR_recover_139 : decode cR_recover 139 = .ok (.getfield 63, 3) := by decide +kernel
theorem dR_recover_142 : decode cR_recover 142 = .ok (.ifCond .eq 7, 3) := by decide +kernel
theorem dR_recover_145 : decode cR_recover 145 = .ok (.iconst 0, 1) := by decide +kernel
theorem dR_recover_146 : decode cR_recover 146 = .ok (.goto 4, 3) := by decide +kernel
theorem dR_recover_149 : decode cR_recover 149 = .ok (.iload_n 1, 1) := by decide +kernel
theorem dR_recover_150 : decode cR_recover 150 = .ok (.ireturn, 1) := by decide +kernel
theorem dR_word_0 : decode cR_word 0 = .ok (.aload_n 0, 1) := by decide +kernel
theorem dR_word_1 : decode cR_word 1 = .ok (.iload_n 1, 1) := by decide +kernel
theorem dR_word_2 : decode cR_word 2 = .ok (.invokestatic 133, 3) := by decide +kernel
theorem dR_word_5 : decode cR_word 5 = .ok (.ifCond .eq 7, 3) := by decide +kernel
theorem dR_word_8 : decode cR_word 8 = .ok (.iconst 0, 1) := by decide +kernel
theorem dR_word_9 : decode cR_word 9 = .ok (.goto 4, 3) := by decide +kernel
theorem dR_word_12 : decode cR_word 12 = .ok (.iconst 1, 1) := by decide +kernel
theorem dR_word_13 : decode cR_word 13 = .ok (.putfield 49, 3) := by decide +kernel
theorem dR_word_16 : decode cR_word 16 = .ok (.aload_n 0, 1) := by decide +kernel
theorem dR_word_17 : decode cR_word 17 = .ok (.getfield 49, 3) := by decide +kernel
theorem dR_word_20 : decode cR_word 20 = .ok (.ifCond .le 7, 3) := by decide +kernel
theorem dR_word_23 : decode cR_word 23 = .ok (.lconst 0, 1) := by decide +kernel
theorem dR_word_24 : decode cR_word 24 = .ok (.goto 22, 3) := by decide +kernel
theorem dR_word_27 : decode cR_word 27 = .ok (.iload_n 2, 1) := by decide +kernel
theorem dR_word_28 : decode cR_word 28 = .ok (.ifCond .eq 12, 3) := by decide +kernel
theorem dR_word_31 : decode cR_word 31 = .ok (.aload_n 0, 1) := by decide +kernel
theorem dR_word_32 : decode cR_word 32 = .ok (.getfield 13, 3) := by decide +kernel
theorem dR_word_35 : decode cR_word 35 = .ok (.iload_n 1, 1) := by decide +kernel
theorem dR_word_36 : decode cR_word 36 = .ok (.laload, 1) := by decide +kernel
theorem dR_word_37 : decode cR_word 37 = .ok (.goto 9, 3) := by decide +kernel
theorem dR_word_40 : decode cR_word 40 = .ok (.aload_n 0, 1) := by decide +kernel
theorem dR_word_41 : decode cR_word 41 = .ok (.getfield 7, 3) := by decide +kernel
theorem dR_word_44 : decode cR_word 44 = .ok (.iload_n 1, 1) := by decide +kernel
theorem dR_word_45 : decode cR_word 45 = .ok (.laload, 1) := by decide +kernel
theorem dR_word_46 : decode cR_word 46 = .ok (.lreturn, 1) := by decide +kernel
theorem dR_isWord_0 : decode cR_isWord 0 = .ok (.iload_n 0, 1) := by decide +kernel
theorem dR_isWord_1 : decode cR_isWord 1 = .ok (.ifCond .lt 13, 3) := by decide +kernel
theorem dR_isWord_4 : decode cR_isWord 4 = .ok (.iload_n 0, 1) := by decide +kernel
theorem dR_isWord_5 : decode cR_isWord 5 = .ok (.bipush 112, 2) := by decide +kernel
theorem dR_isWord_7 : decode cR_isWord 7 = .ok (.if_icmp .ge 7, 3) := by decide +kernel
theorem dR_isWord_10 : decode cR_isWord 10 = .ok (.iconst 1, 1) := by decide +kernel
theorem dR_isWord_11 : decode cR_isWord 11 = .ok (.goto 4, 3) := by decide +kernel
theorem dR_isWord_14 : decode cR_isWord 14 = .ok (.iconst 0, 1) := by decide +kernel
theorem dR_isWord_15 : decode cR_isWord 15 = .ok (.ireturn, 1) := by decide +kernel
theorem dR_loose_0 : decode cR_loose 0 = .ok (.aload_n 0, 1) := by decide +kernel
theorem dR_loose_1 : decode cR_loose 1 = .ok (.iconst 0, 1) := by decide +kernel
theorem dR_loose_2 : decode cR_loose 2 = .ok (.putfield 49, 3) := by decide +kernel
theorem dR_loose_5 : decode cR_loose 5 = .ok (.iload_n 1, 1) := by decide +kernel
theorem dR_loose_6 : decode cR_loose 6 = .ok (.invokestatic 133, 3) := by decide +kernel
theorem dR_loose_9 : decode cR_loose 9 = .ok (.ifCond .eq 12, 3) := by decide +kernel
theorem dR_loose_12 : decode cR_loose 12 = .ok (.aload_n 0, 1) := by decide +kernel
theorem dR_loose_13 : decode cR_loose 13 = .ok (.getfield 19, 3) := by decide +kernel
theorem dR_loose_16 : decode cR_loose 16 = .ok (.iload_n 1, 1) := by decide +kernel
theorem dR_loose_17 : decode cR_loose 17 = .ok (.iaload, 1) := by decide +kernel
theorem dR_loose_18 : decode cR_loose 18 = .ok (.goto 4, 3) := by decide +kernel
theorem dR_loose_21 : decode cR_loose 21 = .ok (.iconst (-1), 1) := by decide +kernel
theorem dR_loose_22 : decode cR_loose 22 = .ok (.ireturn, 1) := by decide +kernel
theorem dR_look_0 : decode cR_look 0 = .ok (.aload_n 0, 1) := by decide +kernel
theorem dR_look_1 : decode cR_look 1 = .ok (.iconst 0, 1) := by decide +kernel
theorem dR_look_2 : decode cR_look 2 = .ok (.putfield 49, 3) := by decide +kernel
theorem dR_look_5 : decode cR_look 5 = .ok (.iload_n 1, 1) := by decide +kernel
theorem dR_look_6 : decode cR_look 6 = .ok (.iconst 2, 1) := by decide +kernel
theorem dR_look_7 : decode cR_look 7 = .ok (.if_icmp .eq 8, 3) := by decide +kernel
theorem dR_look_10 : decode cR_look 10 = .ok (.iload_n 1, 1) := by decide +kernel
theorem dR_look_11 : decode cR_look 11 = .ok (.iconst 3, 1) := by decide +kernel
theorem dR_look_12 : decode cR_look 12 = .ok (.if_icmp .ne 50, 3) := by decide +kernel
theorem dR_look_15 : decode cR_look 15 = .ok (.iload_n 1, 1) := by decide +kernel
theorem dR_look_16 : decode cR_look 16 = .ok (.iconst 2, 1) := by decide +kernel
theorem dR_look_17 : decode cR_look 17 = .ok (.if_icmp .ne 7, 3) := by decide +kernel
theorem dR_look_20 : decode cR_look 20 = .ok (.iconst 5, 1) := by decide +kernel
theorem dR_look_21 : decode cR_look 21 = .ok (.goto 5, 3) := by decide +kernel
theorem dR_look_24 : decode cR_look 24 = .ok (.bipush 14, 2) := by decide +kernel
theorem dR_look_26 : decode cR_look 26 = .ok (.istore_n 2, 1) := by decide +kernel
theorem dR_look_27 : decode cR_look 27 = .ok (.aload_n 0, 1) := by decide +kernel
theorem dR_look_28 : decode cR_look 28 = .ok (.getfield 53, 3) := by decide +kernel
theorem dR_look_31 : decode cR_look 31 = .ok (.ifCond .eq 7, 3) := by decide +kernel
theorem dR_look_34 : decode cR_look 34 = .ok (.iconst (-1), 1) := by decide +kernel
theorem dR_look_35 : decode cR_look 35 = .ok (.goto 26, 3) := by decide +kernel
theorem dR_look_38 : decode cR_look 38 = .ok (.aload_n 0, 1) := by decide +kernel
theorem dR_look_39 : decode cR_look 39 = .ok (.getfield 57, 3) := by decide +kernel
theorem dR_look_42 : decode cR_look 42 = .ok (.ifCond .eq 12, 3) := by decide +kernel
theorem dR_look_45 : decode cR_look 45 = .ok (.aload_n 0, 1) := by decide +kernel
theorem dR_look_46 : decode cR_look 46 = .ok (.getfield 27, 3) := by decide +kernel
theorem dR_look_49 : decode cR_look 49 = .ok (.iload_n 2, 1) := by decide +kernel
theorem dR_look_50 : decode cR_look 50 = .ok (.laload, 1) := by decide +kernel
theorem dR_look_51 : decode cR_look 51 = .ok (.goto 9, 3) := by decide +kernel
theorem dR_look_54 : decode cR_look 54 = .ok (.aload_n 0, 1) := by decide +kernel
theorem dR_look_55 : decode cR_look 55 = .ok (.getfield 7, 3) := by decide +kernel
theorem dR_look_58 : decode cR_look 58 = .ok (.iload_n 2, 1) := by decide +kernel
theorem dR_look_59 : decode cR_look 59 = .ok (.laload, 1) := by decide +kernel
theorem dR_look_60 : decode cR_look 60 = .ok (.l2i, 1) := by decide +kernel
theorem dR_look_61 : decode cR_look 61 = .ok (.ireturn, 1) := by decide +kernel
theorem dR_look_62 : decode cR_look 62 = .ok (.iload_n 1, 1) := by decide +kernel
theorem dR_look_63 : decode cR_look 63 = .ok (.iconst 4, 1) := by decide +kernel
theorem dR_look_64 : decode cR_look 64 = .ok (.if_icmp .ge 44, 3) := by decide +kernel
theorem dR_look_67 : decode cR_look 67 = .ok (.iload_n 1, 1) := by decide +kernel
theorem dR_look_68 : decode cR_look 68 = .ok (.ifCond .ne 18, 3) := by decide +kernel
theorem dR_look_71 : decode cR_look 71 = .ok (.aload_n 0, 1) := by decide +kernel
theorem dR_look_72 : decode cR_look 72 = .ok (.getfield 53, 3) := by decide +kernel
theorem dR_look_75 : decode cR_look 75 = .ok (.ifCond .eq 7, 3) := by decide +kernel
theorem dR_look_78 : decode cR_look 78 = .ok (.iconst 1, 1) := by decide +kernel
theorem dR_look_79 : decode cR_look 79 = .ok (.goto 28, 3) := by decide +kernel
theorem dR_look_82 : decode cR_look 82 = .ok (.iconst 0, 1) := by decide +kernel
theorem dR_look_83 : decode cR_look 83 = .ok (.goto 24, 3) := by decide +kernel
theorem dR_look_86 : decode cR_look 86 = .ok (.iload_n 1, 1) := by decide +kernel
theorem dR_look_87 : decode cR_look 87 = .ok (.iconst 1, 1) := by decide +kernel
theorem dR_look_88 : decode cR_look 88 = .ok (.if_icmp .ne 18, 3) := by decide +kernel
theorem dR_look_91 : decode cR_look 91 = .ok (.aload_n 0, 1) := by decide +kernel
theorem dR_look_92 : decode cR_look 92 = .ok (.getfield 57, 3) := by decide +kernel
theorem dR_look_95 : decode cR_look 95 = .ok (.ifCond .eq 7, 3) := by decide +kernel
theorem dR_look_98 : decode cR_look 98 = .ok (.iconst 1, 1) := by decide +kernel
theorem dR_look_99 : decode cR_look 99 = .ok (.goto 8, 3) := by decide +kernel
theorem dR_look_102 : decode cR_look 102 = .ok (.iconst 0, 1) := by decide +kernel
theorem dR_look_103 : decode cR_look 103 = .ok (.goto 4, 3) := by decide +kernel
theorem dR_look_106 : decode cR_look 106 = .ok (.iconst (-1), 1) := by decide +kernel
theorem dR_look_107 : decode cR_look 107 = .ok (.ireturn, 1) := by decide +kernel
theorem dR_look_108 : decode cR_look 108 = .ok (.iload_n 1, 1) := by decide +kernel
theorem dR_look_109 : decode cR_look 109 = .ok (.iconst 4, 1) := by decide +kernel
theorem dR_look_110 : decode cR_look 110 = .ok (.if_icmp .ne 10, 3) := by decide +kernel
theorem dR_look_113 : decode cR_look 113 = .ok (.aload_n 0, 1) := by decide +kernel
theorem dR_look_114 : decode cR_look 114 = .ok (.getfield 77, 3) := by decide +kernel
theorem dR_look_117 : decode cR_look 117 = .ok (.goto 55, 3) := by decide +kernel
theorem dR_look_120 : decode cR_look 120 = .ok (.iload_n 1, 1) := by decide +kernel
theorem dR_look_121 : decode cR_look 121 = .ok (.iconst 5, 1) := by decide +kernel
theorem dR_look_122 : decode cR_look 122 = .ok (.if_icmp .ne 10, 3) := by decide +kernel
theorem dR_look_125 : decode cR_look 125 = .ok (.aload_n 0, 1) := by decide +kernel
theorem dR_look_126 : decode cR_look 126 = .ok (.getfield 80, 3) := by decide +kernel
theorem dR_look_129 : decode cR_look 129 = .ok (.goto 43, 3) := by decide +kernel
theorem dR_look_132 : decode cR_look 132 = .ok (.iload_n 1, 1) := by decide +kernel
theorem dR_look_133 : decode cR_look 133 = .ok (.bipush 6, 2) := by decide +kernel
theorem dR_look_135 : decode cR_look 135 = .ok (.if_icmp .ne 10, 3) := by decide +kernel
theorem dR_look_138 : decode cR_look 138 = .ok (.aload_n 0, 1) := by decide +kernel
theorem dR_look_139 : decode cR_look 139 = .ok (.getfield 83, 3) := by decide +kernel
theorem dR_look_142 : decode cR_look 142 = .ok (.goto 30, 3) := by decide +kernel
theorem dR_look_145 : decode cR_look 145 = .ok (.iload_n 1, 1) := by decide +kernel
theorem dR_look_146 : decode cR_look 146 = .ok (.bipush 7, 2) := by decide +kernel
theorem dR_look_148 : decode cR_look 148 = .ok (.if_icmp .ne 10, 3) := by decide +kernel
theorem dR_look_151 : decode cR_look 151 = .ok (.aload_n 0, 1) := by decide +kernel
theorem dR_look_152 : decode cR_look 152 = .ok (.getfield 60, 3) := by decide +kernel
theorem dR_look_155 : decode cR_look 155 = .ok (.goto 17, 3) := by decide +kernel
theorem dR_look_158 : decode cR_look 158 = .ok (.iload_n 1, 1) := by decide +kernel
theorem dR_look_159 : decode cR_look 159 = .ok (.bipush 8, 2) := by decide +kernel
theorem dR_look_161 : decode cR_look 161 = .ok (.if_icmp .ne 10, 3) := by decide +kernel
theorem dR_look_164 : decode cR_look 164 = .ok (.aload_n 0, 1) := by decide +kernel
theorem dR_look_165 : decode cR_look 165 = .ok (.getfield 30, 3) := by decide +kernel
theorem dR_look_168 : decode cR_look 168 = .ok (.goto 4, 3) := by decide +kernel
theorem dR_look_171 : decode cR_look 171 = .ok (.iconst (-1), 1) := by decide +kernel
theorem dR_look_172 : decode cR_look 172 = .ok (.ireturn, 1) := by decide +kernel
theorem dR_audit_0 : decode cR_audit 0 = .ok (.aload_n 0, 1) := by decide +kernel
theorem dR_audit_1 : decode cR_audit 1 = .ok (.iconst 0, 1) := by decide +kernel
theorem dR_audit_2 : decode cR_audit 2 = .ok (.putfield 49, 3) := by decide +kernel
theorem dR_audit_5 : decode cR_audit 5 = .ok (.aload_n 0, 1) := by decide +kernel
theorem dR_audit_6 : decode cR_audit 6 = .ok (.getfield 7, 3) := by decide +kernel
theorem dR_audit_9 : decode cR_audit 9 = .ok (.iconst 4, 1) := by decide +kernel
theorem dR_audit_10 : decode cR_audit 10 = .ok (.laload, 1) := by decide +kernel
theorem dR_audit_11 : decode cR_audit 11 = .ok (.lconst 0, 1) := by decide +kernel
theorem dR_audit_12 : decode cR_audit 12 = .ok (.lcmp, 1) := by decide +kernel
theorem dR_audit_13 : decode cR_audit 13 = .ok (.ifCond .lt 40, 3) := by decide +kernel
theorem dR_audit_16 : decode cR_audit 16 = .ok (.aload_n 0, 1) := by decide +kernel
theorem dR_audit_17 : decode cR_audit 17 = .ok (.getfield 7, 3) := by decide +kernel
theorem dR_audit_20 : decode cR_audit 20 = .ok (.iconst 4, 1) := by decide +kernel
theorem dR_audit_21 : decode cR_audit 21 = .ok (.laload, 1) := by decide +kernel
theorem dR_audit_22 : decode cR_audit 22 = .ok (.ldc2_w 137, 3) := by decide +kernel
theorem dR_audit_25 : decode cR_audit 25 = .ok (.lcmp, 1) := by decide +kernel
theorem dR_audit_26 : decode cR_audit 26 = .ok (.ifCond .gt 27, 3) := by decide +kernel
theorem dR_audit_29 : decode cR_audit 29 = .ok (.aload_n 0, 1) := by decide +kernel
theorem dR_audit_30 : decode cR_audit 30 = .ok (.getfield 7, 3) := by decide +kernel
theorem dR_audit_33 : decode cR_audit 33 = .ok (.iconst 5, 1) := by decide +kernel
theorem dR_audit_34 : decode cR_audit 34 = .ok (.laload, 1) := by decide +kernel
theorem dR_audit_35 : decode cR_audit 35 = .ok (.lconst 0, 1) := by decide +kernel
theorem dR_audit_36 : decode cR_audit 36 = .ok (.lcmp, 1) := by decide +kernel
theorem dR_audit_37 : decode cR_audit 37 = .ok (.ifCond .lt 16, 3) := by decide +kernel
theorem dR_audit_40 : decode cR_audit 40 = .ok (.aload_n 0, 1) := by decide +kernel
theorem dR_audit_41 : decode cR_audit 41 = .ok (.getfield 7, 3) := by decide +kernel
theorem dR_audit_44 : decode cR_audit 44 = .ok (.iconst 5, 1) := by decide +kernel
theorem dR_audit_45 : decode cR_audit 45 = .ok (.laload, 1) := by decide +kernel
theorem dR_audit_46 : decode cR_audit 46 = .ok (.ldc2_w 139, 3) := by decide +kernel
theorem dR_audit_49 : decode cR_audit 49 = .ok (.lcmp, 1) := by decide +kernel
theorem dR_audit_50 : decode cR_audit 50 = .ok (.ifCond .le 5, 3) := by decide +kernel
theorem dR_audit_53 : decode cR_audit 53 = .ok (.iconst 1, 1) := by decide +kernel
theorem dR_audit_54 : decode cR_audit 54 = .ok (.ireturn, 1) := by decide +kernel
theorem dR_audit_55 : decode cR_audit 55 = .ok (.aload_n 0, 1) := by decide +kernel
theorem dR_audit_56 : decode cR_audit 56 = .ok (.getfield 7, 3) := by decide +kernel
theorem dR_audit_59 : decode cR_audit 59 = .ok (.bipush 14, 2) := by decide +kernel
theorem dR_audit_61 : decode cR_audit 61 = .ok (.laload, 1) := by decide +kernel
theorem dR_audit_62 : decode cR_audit 62 = .ok (.lconst 0, 1) := by decide +kernel
theorem dR_audit_63 : decode cR_audit 63 = .ok (.lcmp, 1) := by decide +kernel
theorem dR_audit_64 : decode cR_audit 64 = .ok (.ifCond .lt 21, 3) := by decide +kernel
theorem dR_audit_67 : decode cR_audit 67 = .ok (.aload_n 0, 1) := by decide +kernel
theorem dR_audit_68 : decode cR_audit 68 = .ok (.getfield 7, 3) := by decide +kernel
theorem dR_audit_71 : decode cR_audit 71 = .ok (.bipush 14, 2) := by decide +kernel
theorem dR_audit_73 : decode cR_audit 73 = .ok (.laload, 1) := by decide +kernel
theorem dR_audit_74 : decode cR_audit 74 = .ok (.ldc2_w 139, 3) := by decide +kernel
theorem dR_audit_77 : decode cR_audit 77 = .ok (.lcmp, 1) := by decide +kernel
theorem dR_audit_78 : decode cR_audit 78 = .ok (.ifCond .gt 7, 3) := by decide +kernel
theorem dR_audit_81 : decode cR_audit 81 = .ok (.iconst 1, 1) := by decide +kernel
theorem dR_audit_82 : decode cR_audit 82 = .ok (.goto 4, 3) := by decide +kernel
theorem dR_audit_85 : decode cR_audit 85 = .ok (.iconst 0, 1) := by decide +kernel
theorem dR_audit_86 : decode cR_audit 86 = .ok (.istore_n 1, 1) := by decide +kernel
theorem dR_audit_87 : decode cR_audit 87 = .ok (.iconst 0, 1) := by decide +kernel
theorem dR_audit_88 : decode cR_audit 88 = .ok (.istore_n 2, 1) := by decide +kernel
theorem dR_audit_89 : decode cR_audit 89 = .ok (.iload_n 2, 1) := by decide +kernel
theorem dR_audit_90 : decode cR_audit 90 = .ok (.bipush 7, 2) := by decide +kernel
theorem dR_audit_92 : decode cR_audit 92 = .ok (.if_icmp .ge 58, 3) := by decide +kernel
theorem dR_audit_95 : decode cR_audit 95 = .ok (.iload_n 1, 1) := by decide +kernel
theorem dR_audit_96 : decode cR_audit 96 = .ok (.ifCond .eq 46, 3) := by decide +kernel
theorem dR_audit_99 : decode cR_audit 99 = .ok (.iload_n 2, 1) := by decide +kernel
theorem dR_audit_100 : decode cR_audit 100 = .ok (.iconst 1, 1) := by decide +kernel
theorem dR_audit_101 : decode cR_audit 101 = .ok (.iadd, 1) := by decide +kernel
theorem dR_audit_102 : decode cR_audit 102 = .ok (.i2l, 1) := by decide +kernel
theorem dR_audit_103 : decode cR_audit 103 = .ok (.aload_n 0, 1) := by decide +kernel
theorem dR_audit_104 : decode cR_audit 104 = .ok (.getfield 7, 3) := by decide +kernel
theorem dR_audit_107 : decode cR_audit 107 = .ok (.bipush 14, 2) := by decide +kernel
theorem dR_audit_109 : decode cR_audit 109 = .ok (.laload, 1) := by decide +kernel
theorem dR_audit_110 : decode cR_audit 110 = .ok (.lcmp, 1) := by decide +kernel
theorem dR_audit_111 : decode cR_audit 111 = .ok (.ifCond .ge 27, 3) := by decide +kernel
theorem dR_audit_114 : decode cR_audit 114 = .ok (.aload_n 0, 1) := by decide +kernel
theorem dR_audit_115 : decode cR_audit 115 = .ok (.getfield 7, 3) := by decide +kernel
theorem dR_audit_118 : decode cR_audit 118 = .ok (.bipush 15, 2) := by decide +kernel
theorem dR_audit_120 : decode cR_audit 120 = .ok (.iload_n 2, 1) := by decide +kernel
theorem dR_audit_121 : decode cR_audit 121 = .ok (.iadd, 1) := by decide +kernel
theorem dR_audit_122 : decode cR_audit 122 = .ok (.laload, 1) := by decide +kernel
theorem dR_audit_123 : decode cR_audit 123 = .ok (.aload_n 0, 1) := by decide +kernel
theorem dR_audit_124 : decode cR_audit 124 = .ok (.getfield 7, 3) := by decide +kernel
theorem dR_audit_127 : decode cR_audit 127 = .ok (.bipush 15, 2) := by decide +kernel
theorem dR_audit_129 : decode cR_audit 129 = .ok (.iload_n 2, 1) := by decide +kernel
theorem dR_audit_130 : decode cR_audit 130 = .ok (.iadd, 1) := by decide +kernel
theorem dR_audit_131 : decode cR_audit 131 = .ok (.iconst 1, 1) := by decide +kernel
theorem dR_audit_132 : decode cR_audit 132 = .ok (.iadd, 1) := by decide +kernel
theorem dR_audit_133 : decode cR_audit 133 = .ok (.laload, 1) := by decide +kernel
theorem dR_audit_134 : decode cR_audit 134 = .ok (.lcmp, 1) := by decide +kernel
theorem dR_audit_135 : decode cR_audit 135 = .ok (.ifCond .ge 7, 3) := by decide +kernel
theorem dR_audit_138 : decode cR_audit 138 = .ok (.iconst 1, 1) := by decide +kernel
theorem dR_audit_139 : decode cR_audit 139 = .ok (.goto 4, 3) := by decide +kernel
theorem dR_audit_142 : decode cR_audit 142 = .ok (.iconst 0, 1) := by decide +kernel
theorem dR_audit_143 : decode cR_audit 143 = .ok (.istore_n 1, 1) := by decide +kernel
theorem dR_audit_144 : decode cR_audit 144 = .ok (.iinc 2 1, 3) := by decide +kernel
theorem dR_audit_147 : decode cR_audit 147 = .ok (.goto (-58), 3) := by decide +kernel
theorem dR_audit_150 : decode cR_audit 150 = .ok (.iload_n 1, 1) := by decide +kernel
theorem dR_audit_151 : decode cR_audit 151 = .ok (.ifCond .ne 7, 3) := by decide +kernel
theorem dR_audit_154 : decode cR_audit 154 = .ok (.iconst 2, 1) := by decide +kernel
theorem dR_audit_155 : decode cR_audit 155 = .ok (.goto 20, 3) := by decide +kernel
theorem dR_audit_158 : decode cR_audit 158 = .ok (.aload_n 0, 1) := by decide +kernel
theorem dR_audit_159 : decode cR_audit 159 = .ok (.getfield 7, 3) := by decide +kernel
theorem dR_audit_162 : decode cR_audit 162 = .ok (.bipush 40, 2) := by decide +kernel
theorem dR_audit_164 : decode cR_audit 164 = .ok (.laload, 1) := by decide +kernel
theorem dR_audit_165 : decode cR_audit 165 = .ok (.lconst 0, 1) := by decide +kernel
theorem dR_audit_166 : decode cR_audit 166 = .ok (.lcmp, 1) := by decide +kernel
theorem dR_audit_167 : decode cR_audit 167 = .ok (.ifCond .eq 7, 3) := by decide +kernel
theorem dR_audit_170 : decode cR_audit 170 = .ok (.iconst 3, 1) := by decide +kernel
theorem dR_audit_171 : decode cR_audit 171 = .ok (.goto 4, 3) := by decide +kernel
theorem dR_audit_174 : decode cR_audit 174 = .ok (.iconst 0, 1) := by decide +kernel
theorem dR_audit_175 : decode cR_audit 175 = .ok (.ireturn, 1) := by decide +kernel
