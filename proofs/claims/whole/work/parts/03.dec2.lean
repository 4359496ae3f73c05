theorem dX12_init_0 : decode cX12_init 0 = .ok (.aload_n 0, 1) := by decide +kernel
theorem dX12_init_1 : decode cX12_init 1 = .ok (.invokespecial 1, 3) := by decide +kernel
theorem dX12_init_4 : decode cX12_init 4 = .ok (.aload_n 0, 1) := by decide +kernel
theorem dX12_init_5 : decode cX12_init 5 = .ok (.sipush 173, 3) := by decide +kernel
theorem dX12_init_8 : decode cX12_init 8 = .ok (.newarray .int, 2) := by decide +kernel
theorem dX12_init_10 : decode cX12_init 10 = .ok (.putfield 7, 3) := by decide +kernel
theorem dX12_init_13 : decode cX12_init 13 = .ok (.aload_n 0, 1) := by decide +kernel
theorem dX12_init_14 : decode cX12_init 14 = .ok (.sipush 173, 3) := by decide +kernel
theorem dX12_init_17 : decode cX12_init 17 = .ok (.newarray .int, 2) := by decide +kernel
theorem dX12_init_19 : decode cX12_init 19 = .ok (.putfield 13, 3) := by decide +kernel
theorem dX12_init_22 : decode cX12_init 22 = .ok (.aload_n 0, 1) := by decide +kernel
theorem dX12_init_23 : decode cX12_init 23 = .ok (.bipush 8, 2) := by decide +kernel
theorem dX12_init_25 : decode cX12_init 25 = .ok (.newarray .int, 2) := by decide +kernel
theorem dX12_init_27 : decode cX12_init 27 = .ok (.putfield 16, 3) := by decide +kernel
theorem dX12_init_30 : decode cX12_init 30 = .ok (.aload_n 0, 1) := by decide +kernel
theorem dX12_init_31 : decode cX12_init 31 = .ok (.bipush 8, 2) := by decide +kernel
theorem dX12_init_33 : decode cX12_init 33 = .ok (.newarray .int, 2) := by decide +kernel
theorem dX12_init_35 : decode cX12_init 35 = .ok (.putfield 19, 3) := by decide +kernel
theorem dX12_init_38 : decode cX12_init 38 = .ok (.aload_n 0, 1) := by decide +kernel
theorem dX12_init_39 : decode cX12_init 39 = .ok (.bipush 8, 2) := by decide +kernel
theorem dX12_init_41 : decode cX12_init 41 = .ok (.newarray .int, 2) := by decide +kernel
theorem dX12_init_43 : decode cX12_init 43 = .ok (.putfield 22, 3) := by decide +kernel
theorem dX12_init_46 : decode cX12_init 46 = .ok (.aload_n 0, 1) := by decide +kernel
theorem dX12_init_47 : decode cX12_init 47 = .ok (.sipush 1280, 3) := by decide +kernel
theorem dX12_init_50 : decode cX12_init 50 = .ok (.newarray .long, 2) := by decide +kernel
theorem dX12_init_52 : decode cX12_init 52 = .ok (.putfield 25, 3) := by decide +kernel
theorem dX12_init_55 : decode cX12_init 55 = .ok (.aload_n 0, 1) := by decide +kernel
theorem dX12_init_56 : decode cX12_init 56 = .ok (.sipush 160, 3) := by decide +kernel
theorem dX12_init_59 : decode cX12_init 59 = .ok (.newarray .long, 2) := by decide +kernel
theorem dX12_init_61 : decode cX12_init 61 = .ok (.putfield 29, 3) := by decide +kernel
theorem dX12_init_64 : decode cX12_init 64 = .ok (.aload_n 0, 1) := by decide +kernel
theorem dX12_init_65 : decode cX12_init 65 = .ok (.iconst (-1), 1) := by decide +kernel
theorem dX12_init_66 : decode cX12_init 66 = .ok (.putfield 32, 3) := by decide +kernel
theorem dX12_init_69 : decode cX12_init 69 = .ok (.aload_n 0, 1) := by decide +kernel
theorem dX12_init_70 : decode cX12_init 70 = .ok (.bipush 30, 2) := by decide +kernel
theorem dX12_init_72 : decode cX12_init 72 = .ok (.newarray .int, 2) := by decide +kernel
theorem dX12_init_74 : decode cX12_init 74 = .ok (.putfield 36, 3) := by decide +kernel
theorem dX12_init_77 : decode cX12_init 77 = .ok (.aload_n 0, 1) := by decide +kernel
theorem dX12_init_78 : decode cX12_init 78 = .ok (.bipush 30, 2) := by decide +kernel
theorem dX12_init_80 : decode cX12_init 80 = .ok (.newarray .int, 2) := by decide +kernel
theorem dX12_init_82 : decode cX12_init 82 = .ok (.putfield 39, 3) := by decide +kernel
theorem dX12_init_85 : decode cX12_init 85 = .ok (.aload_n 0, 1) := by decide +kernel
theorem dX12_init_86 : decode cX12_init 86 = .ok (.bipush 24, 2) := by decide +kernel
theorem dX12_init_88 : decode cX12_init 88 = .ok (.newarray .int, 2) := by decide +kernel
theorem dX12_init_90 : decode cX12_init 90 = .ok (.putfield 42, 3) := by decide +kernel
theorem dX12_init_93 : decode cX12_init 93 = .ok (.aload_n 0, 1) := by decide +kernel
theorem dX12_init_94 : decode cX12_init 94 = .ok (.sipush 300, 3) := by decide +kernel
theorem dX12_init_97 : decode cX12_init 97 = .ok (.newarray .int, 2) := by decide +kernel
theorem dX12_init_99 : decode cX12_init 99 = .ok (.putfield 45, 3) := by decide +kernel
theorem dX12_init_102 : decode cX12_init 102 = .ok (.aload_n 0, 1) := by decide +kernel
theorem dX12_init_103 : decode cX12_init 103 = .ok (.sipush 300, 3) := by decide +kernel
theorem dX12_init_106 : decode cX12_init 106 = .ok (.newarray .int, 2) := by decide +kernel
theorem dX12_init_108 : decode cX12_init 108 = .ok (.putfield 48, 3) := by decide +kernel
theorem dX12_init_111 : decode cX12_init 111 = .ok (.aload_n 0, 1) := by decide +kernel
theorem dX12_init_112 : decode cX12_init 112 = .ok (.sipush 300, 3) := by decide +kernel
theorem dX12_init_115 : decode cX12_init 115 = .ok (.newarray .int, 2) := by decide +kernel
theorem dX12_init_117 : decode cX12_init 117 = .ok (.putfield 51, 3) := by decide +kernel
theorem dX12_init_120 : decode cX12_init 120 = .ok (.aload_n 0, 1) := by decide +kernel
theorem dX12_init_121 : decode cX12_init 121 = .ok (.sipush 7200, 3) := by decide +kernel
theorem dX12_init_124 : decode cX12_init 124 = .ok (.newarray .int, 2) := by decide +kernel
theorem dX12_init_126 : decode cX12_init 126 = .ok (.putfield 54, 3) := by decide +kernel
theorem dX12_init_129 : decode cX12_init 129 = .ok (.aload_n 0, 1) := by decide +kernel
theorem dX12_init_130 : decode cX12_init 130 = .ok (.sipush 300, 3) := by decide +kernel
theorem dX12_init_133 : decode cX12_init 133 = .ok (.newarray .int, 2) := by decide +kernel
theorem dX12_init_135 : decode cX12_init 135 = .ok (.putfield 57, 3) := by decide +kernel
theorem dX12_init_138 : decode cX12_init 138 = .ok (.aload_n 0, 1) := by decide +kernel
theorem dX12_init_139 : decode cX12_init 139 = .ok (.bipush 40, 2) := by decide +kernel
theorem dX12_init_141 : decode cX12_init 141 = .ok (.newarray .int, 2) := by decide +kernel
theorem dX12_init_143 : decode cX12_init 143 = .ok (.putfield 60, 3) := by decide +kernel
theorem dX12_init_146 : decode cX12_init 146 = .ok (.aload_n 0, 1) := by decide +kernel
theorem dX12_init_147 : decode cX12_init 147 = .ok (.getfield 7, 3) := by decide +kernel
theorem dX12_init_150 : decode cX12_init 150 = .ok (.sipush 171, 3) := by decide +kernel
theorem dX12_init_153 : decode cX12_init 153 = .ok (.iconst 1, 1) := by decide +kernel
theorem dX12_init_154 : decode cX12_init 154 = .ok (.iastore, 1) := by decide +kernel
theorem dX12_init_155 : decode cX12_init 155 = .ok (.iconst 0, 1) := by decide +kernel
theorem dX12_init_156 : decode cX12_init 156 = .ok (.istore_n 1, 1) := by decide +kernel
theorem dX12_init_157 : decode cX12_init 157 = .ok (.iload_n 1, 1) := by decide +kernel
theorem dX12_init_158 : decode cX12_init 158 = .ok (.bipush 8, 2) := by decide +kernel
theorem dX12_init_160 : decode cX12_init 160 = .ok (.if_icmp .ge 16, 3) := by decide +kernel
theorem dX12_init_163 : decode cX12_init 163 = .ok (.aload_n 0, 1) := by decide +kernel
theorem dX12_init_164 : decode cX12_init 164 = .ok (.getfield 19, 3) := by decide +kernel
theorem dX12_init_167 : decode cX12_init 167 = .ok (.iload_n 1, 1) := by decide +kernel
theorem dX12_init_168 : decode cX12_init 168 = .ok (.iconst (-1), 1) := by decide +kernel
theorem dX12_init_169 : decode cX12_init 169 = .ok (.iastore, 1) := by decide +kernel
theorem dX12_init_170 : decode cX12_init 170 = .ok (.iinc 1 1, 3) := by decide +kernel
theorem dX12_init_173 : decode cX12_init 173 = .ok (.goto (-16), 3) := by decide +kernel
theorem dX12_init_176 : decode cX12_init 176 = .ok (.return_, 1) := by decide +kernel
theorem dX12_in_0 : decode cX12_in 0 = .ok (.iload_n 0, 1) := by decide +kernel
theorem dX12_in_1 : decode cX12_in 1 = .ok (.iload_n 1, 1) := by decide +kernel
theorem dX12_in_2 : decode cX12_in 2 = .ok (.if_icmp .lt 12, 3) := by decide +kernel
theorem dX12_in_5 : decode cX12_in 5 = .ok (.iload_n 0, 1) := by decide +kernel
theorem dX12_in_6 : decode cX12_in 6 = .ok (.iload_n 2, 1) := by decide +kernel
theorem dX12_in_7 : decode cX12_in 7 = .ok (.if_icmp .gt 7, 3) := by decide +kernel
theorem dX12_in_10 : decode cX12_in 10 = .ok (.iconst 1, 1) := by decide +kernel
theorem dX12_in_11 : decode cX12_in 11 = .ok (.goto 4, 3) := by decide +kernel
theorem dX12_in_14 : decode cX12_in 14 = .ok (.iconst 0, 1) := by decide +kernel
theorem dX12_in_15 : decode cX12_in 15 = .ok (.ireturn, 1) := by decide +kernel
theorem dX12_refused_0 : decode cX12_refused 0 = .ok (.aload_n 0, 1) := by decide +kernel
theorem dX12_refused_1 : decode cX12_refused 1 = .ok (.getfield 16, 3) := by decide +kernel
theorem dX12_refused_4 : decode cX12_refused 4 = .ok (.iload_n 1, 1) := by decide +kernel
theorem dX12_refused_5 : decode cX12_refused 5 = .ok (.ineg, 1) := by decide +kernel
theorem dX12_refused_6 : decode cX12_refused 6 = .ok (.dup2, 1) := by decide +kernel
theorem dX12_refused_7 : decode cX12_refused 7 = .ok (.iaload, 1) := by decide +kernel
theorem dX12_refused_8 : decode cX12_refused 8 = .ok (.iconst 1, 1) := by decide +kernel
theorem dX12_refused_9 : decode cX12_refused 9 = .ok (.iadd, 1) := by decide +kernel
theorem dX12_refused_10 : decode cX12_refused 10 = .ok (.iastore, 1) := by decide +kernel
theorem dX12_refused_11 : decode cX12_refused 11 = .ok (.iload_n 1, 1) := by decide +kernel
theorem dX12_refused_12 : decode cX12_refused 12 = .ok (.ireturn, 1) := by decide +kernel
theorem dX12_refusedBelow_0 : decode cX12_refusedBelow 0 = .ok (.aload_n 0, 1) := by decide +kernel
theorem dX12_refusedBelow_1 : decode cX12_refusedBelow 1 = .ok (.getfield 16, 3) := by decide +kernel
theorem dX12_refusedBelow_4 : decode cX12_refusedBelow 4 = .ok (.iload_n 1, 1) := by decide +kernel
theorem dX12_refusedBelow_5 : decode cX12_refusedBelow 5 = .ok (.ineg, 1) := by decide +kernel
theorem dX12_refusedBelow_6 : decode cX12_refusedBelow 6 = .ok (.dup2, 1) := by decide +kernel
theorem dX12_refusedBelow_7 : decode cX12_refusedBelow 7 = .ok (.iaload, 1) := by decide +kernel
theorem dX12_refusedBelow_8 : decode cX12_refusedBelow 8 = .ok (.iconst 1, 1) := by decide +kernel
theorem dX12_refusedBelow_9 : decode cX12_refusedBelow 9 = .ok (.iadd, 1) := by decide +kernel
theorem dX12_refusedBelow_10 : decode cX12_refusedBelow 10 = .ok (.iastore, 1) := by decide +kernel
theorem dX12_refusedBelow_11 : decode cX12_refusedBelow 11 = .ok (.iload_n 1, 1) := by decide +kernel
theorem dX12_refusedBelow_12 : decode cX12_refusedBelow 12 = .ok (.bipush 10, 2) := by decide +kernel
theorem dX12_refusedBelow_14 : decode cX12_refusedBelow 14 = .ok (.isub, 1) := by decide +kernel
theorem dX12_refusedBelow_15 : decode cX12_refusedBelow 15 = .ok (.ireturn, 1) := by decide +kernel
theorem dX12_isSet_0 : decode cX12_isSet 0 = .ok (.iload_n 0, 1) := by decide +kernel
theorem dX12_isSet_1 : decode cX12_isSet 1 = .ok (.iconst 0, 1) := by decide +kernel
theorem dX12_isSet_2 : decode cX12_isSet 2 = .ok (.ldc 66, 2) := by decide +kernel
theorem dX12_isSet_4 : decode cX12_isSet 4 = .ok (.invokestatic 67, 3) := by decide +kernel
theorem dX12_isSet_7 : decode cX12_isSet 7 = .ok (.ireturn, 1) := by decide +kernel
theorem dX12_isFact_0 : decode cX12_isFact 0 = .ok (.iload_n 0, 1) := by decide +kernel
theorem dX12_isFact_1 : decode cX12_isFact 1 = .ok (.iconst 0, 1) := by decide +kernel
theorem dX12_isFact_2 : decode cX12_isFact 2 = .ok (.bipush 29, 2) := by decide +kernel
theorem dX12_isFact_4 : decode cX12_isFact 4 = .ok (.invokestatic 67, 3) := by decide +kernel
theorem dX12_isFact_7 : decode cX12_isFact 7 = .ok (.ireturn, 1) := by decide +kernel
theorem dX12_isAction_0 : decode cX12_isAction 0 = .ok (.iload_n 1, 1) := by decide +kernel
theorem dX12_isAction_1 : decode cX12_isAction 1 = .ok (.iconst 0, 1) := by decide +kernel
theorem dX12_isAction_2 : decode cX12_isAction 2 = .ok (.aload_n 0, 1) := by decide +kernel
theorem dX12_isAction_3 : decode cX12_isAction 3 = .ok (.getfield 7, 3) := by decide +kernel
theorem dX12_isAction_6 : decode cX12_isAction 6 = .ok (.sipush 172, 3) := by decide +kernel
theorem dX12_isAction_9 : decode cX12_isAction 9 = .ok (.iaload, 1) := by decide +kernel
theorem dX12_isAction_10 : decode cX12_isAction 10 = .ok (.iconst 1, 1) := by decide +kernel
theorem dX12_isAction_11 : decode cX12_isAction 11 = .ok (.isub, 1) := by decide +kernel
theorem dX12_isAction_12 : decode cX12_isAction 12 = .ok (.invokestatic 67, 3) := by decide +kernel
theorem dX12_isAction_15 : decode cX12_isAction 15 = .ok (.ireturn, 1) := by decide +kernel
theorem dX12_isShelf_0 : decode cX12_isShelf 0 = .ok (.iload_n 0, 1) := by decide +kernel
theorem dX12_isShelf_1 : decode cX12_isShelf 1 = .ok (.iconst 0, 1) := by decide +kernel
theorem dX12_isShelf_2 : decode cX12_isShelf 2 = .ok (.bipush 7, 2) := by decide +kernel
theorem dX12_isShelf_4 : decode cX12_isShelf 4 = .ok (.invokestatic 67, 3) := by decide +kernel
theorem dX12_isShelf_7 : decode cX12_isShelf 7 = .ok (.ireturn, 1) := by decide +kernel
theorem dX12_has_0 : decode cX12_has 0 = .ok (.iload_n 1, 1) := by decide +kernel
theorem dX12_has_1 : decode cX12_has 1 = .ok (.iload_n 0, 1) := by decide +kernel
theorem dX12_has_2 : decode cX12_has 2 = .ok (.iconst (-1), 1) := by decide +kernel
theorem dX12_has_3 : decode cX12_has 3 = .ok (.ixor, 1) := by decide +kernel
theorem dX12_has_4 : decode cX12_has 4 = .ok (.iand, 1) := by decide +kernel
theorem dX12_has_5 : decode cX12_has 5 = .ok (.ifCond .ne 7, 3) := by decide +kernel
theorem dX12_has_8 : decode cX12_has 8 = .ok (.iconst 1, 1) := by decide +kernel
theorem dX12_has_9 : decode cX12_has 9 = .ok (.goto 4, 3) := by decide +kernel
theorem dX12_has_12 : decode cX12_has 12 = .ok (.iconst 0, 1) := by decide +kernel
theorem dX12_has_13 : decode cX12_has 13 = .ok (.ireturn, 1) := by decide +kernel
theorem dX12_row_0 : decode cX12_row 0 = .ok (.iload_n 1, 1) := by decide +kernel
theorem dX12_row_1 : decode cX12_row 1 = .ok (.invokestatic 71, 3) := by decide +kernel
theorem dX12_row_4 : decode cX12_row 4 = .ok (.ifCond .ne 9, 3) := by decide +kernel
theorem dX12_row_7 : decode cX12_row 7 = .ok (.aload_n 0, 1) := by decide +kernel
theorem dX12_row_8 : decode cX12_row 8 = .ok (.iconst (-1), 1) := by decide +kernel
theorem dX12_row_9 : decode cX12_row 9 = .ok (.invokevirtual 75, 3) := by decide +kernel
theorem dX12_row_12 : decode cX12_row 12 = .ok (.ireturn, 1) := by decide +kernel
theorem dX12_row_13 : decode cX12_row 13 = .ok (.iload_n 3, 1) := by decide +kernel
theorem dX12_row_14 : decode cX12_row 14 = .ok (.ifCond .ge 10, 3) := by decide +kernel
theorem dX12_row_17 : decode cX12_row 17 = .ok (.aload_n 0, 1) := by decide +kernel
theorem dX12_row_18 : decode cX12_row 18 = .ok (.bipush (-4), 2) := by decide +kernel
theorem dX12_row_20 : decode cX12_row 20 = .ok (.invokevirtual 75, 3) := by decide +kernel
theorem dX12_row_23 : decode cX12_row 23 = .ok (.ireturn, 1) := by decide +kernel
theorem dX12_row_24 : decode cX12_row 24 = .ok (.iload_n 2, 1) := by decide +kernel
theorem dX12_row_25 : decode cX12_row 25 = .ok (.iconst 0, 1) := by decide +kernel
theorem dX12_row_26 : decode cX12_row 26 = .ok (.iconst 3, 1) := by decide +kernel
theorem dX12_row_27 : decode cX12_row 27 = .ok (.invokestatic 67, 3) := by decide +kernel
theorem dX12_row_30 : decode cX12_row 30 = .ok (.ifCond .ne 10, 3) := by decide +kernel
theorem dX12_row_33 : decode cX12_row 33 = .ok (.aload_n 0, 1) := by decide +kernel
theorem dX12_row_34 : decode cX12_row 34 = .ok (.bipush (-6), 2) := by decide +kernel
theorem dX12_row_36 : decode cX12_row 36 = .ok (.invokevirtual 75, 3) := by decide +kernel
theorem dX12_row_39 : decode cX12_row 39 = .ok (.ireturn, 1) := by decide +kernel
theorem dX12_row_40 : decode cX12_row 40 = .ok (.iload_n 3, 1) := by decide +kernel
theorem dX12_row_41 : decode cX12_row 41 = .ok (.sipush 160, 3) := by decide +kernel
theorem dX12_row_44 : decode cX12_row 44 = .ok (.if_icmp .le 10, 3) := by decide +kernel
theorem dX12_row_47 : decode cX12_row 47 = .ok (.aload_n 0, 1) := by decide +kernel
theorem dX12_row_48 : decode cX12_row 48 = .ok (.bipush (-7), 2) := by decide +kernel
theorem dX12_row_50 : decode cX12_row 50 = .ok (.invokevirtual 75, 3) := by decide +kernel
theorem dX12_row_53 : decode cX12_row 53 = .ok (.ireturn, 1) := by decide +kernel
theorem dX12_row_54 : decode cX12_row 54 = .ok (.aload_n 0, 1) := by decide +kernel
theorem dX12_row_55 : decode cX12_row 55 = .ok (.getfield 19, 3) := by decide +kernel
theorem dX12_row_58 : decode cX12_row 58 = .ok (.iload_n 1, 1) := by decide +kernel
theorem dX12_row_59 : decode cX12_row 59 = .ok (.iload_n 2, 1) := by decide +kernel
theorem dX12_row_60 : decode cX12_row 60 = .ok (.iastore, 1) := by decide +kernel
theorem dX12_row_61 : decode cX12_row 61 = .ok (.aload_n 0, 1) := by decide +kernel
theorem dX12_row_62 : decode cX12_row 62 = .ok (.getfield 22, 3) := by decide +kernel
theorem dX12_row_65 : decode cX12_row 65 = .ok (.iload_n 1, 1) := by decide +kernel
theorem dX12_row_66 : decode cX12_row 66 = .ok (.iload_n 3, 1) := by decide +kernel
theorem dX12_row_67 : decode cX12_row 67 = .ok (.iastore, 1) := by decide +kernel
theorem dX12_row_68 : decode cX12_row 68 = .ok (.iconst 0, 1) := by decide +kernel
theorem dX12_row_69 : decode cX12_row 69 = .ok (.istore 4, 2) := by decide +kernel
theorem dX12_row_71 : decode cX12_row 71 = .ok (.iload 4, 2) := by decide +kernel
theorem dX12_row_73 : decode cX12_row 73 = .ok (.sipush 160, 3) := by decide +kernel
theorem dX12_row_76 : decode cX12_row 76 = .ok (.if_icmp .ge 23, 3) := by decide +kernel
theorem dX12_row_79 : decode cX12_row 79 = .ok (.aload_n 0, 1) := by decide +kernel
theorem dX12_row_80 : decode cX12_row 80 = .ok (.getfield 25, 3) := by decide +kernel
theorem dX12_row_83 : decode cX12_row 83 = .ok (.sipush 160, 3) := by decide +kernel
theorem dX12_row_86 : decode cX12_row 86 = .ok (.iload_n 1, 1) := by decide +kernel
theorem dX12_row_87 : decode cX12_row 87 = .ok (.imul, 1) := by decide +kernel
theorem dX12_row_88 : decode cX12_row 88 = .ok (.iload 4, 2) := by decide +kernel
theorem dX12_row_90 : decode cX12_row 90 = .ok (.iadd, 1) := by decide +kernel
theorem dX12_row_91 : decode cX12_row 91 = .ok (.lconst 0, 1) := by decide +kernel
theorem dX12_row_92 : decode cX12_row 92 = .ok (.lastore, 1) := by decide +kernel
theorem dX12_row_93 : decode cX12_row 93 = .ok (.iinc 4 1, 3) := by decide +kernel
theorem dX12_row_96 : decode cX12_row 96 = .ok (.goto (-25), 3) := by decide +kernel
theorem dX12_row_99 : decode cX12_row 99 = .ok (.iconst 1, 1) := by decide +kernel
theorem dX12_row_100 : decode cX12_row 100 = .ok (.ireturn, 1) := by decide +kernel
theorem dX12_wanted_0 : decode cX12_wanted 0 = .ok (.iload_n 1, 1) := by decide +kernel
theorem dX12_wanted_1 : decode cX12_wanted 1 = .ok (.invokestatic 71, 3) := by decide +kernel
theorem dX12_wanted_4 : decode cX12_wanted 4 = .ok (.ifCond .ne 7, 3) := by decide +kernel
theorem dX12_wanted_7 : decode cX12_wanted 7 = .ok (.iconst (-1), 1) := by decide +kernel
theorem dX12_wanted_8 : decode cX12_wanted 8 = .ok (.goto 34, 3) := by decide +kernel
theorem dX12_wanted_11 : decode cX12_wanted 11 = .ok (.aload_n 0, 1) := by decide +kernel
theorem dX12_wanted_12 : decode cX12_wanted 12 = .ok (.getfield 19, 3) := by decide +kernel
theorem dX12_wanted_15 : decode cX12_wanted 15 = .ok (.iload_n 1, 1) := by decide +kernel
theorem dX12_wanted_16 : decode cX12_wanted 16 = .ok (.iaload, 1) := by decide +kernel
theorem dX12_wanted_17 : decode cX12_wanted 17 = .ok (.iconst 4, 1) := by decide +kernel
theorem dX12_wanted_18 : decode cX12_wanted 18 = .ok (.if_icmp .ne 8, 3) := by decide +kernel
theorem dX12_wanted_21 : decode cX12_wanted 21 = .ok (.bipush (-2), 2) := by decide +kernel
theorem dX12_wanted_23 : decode cX12_wanted 23 = .ok (.goto 19, 3) := by decide +kernel
theorem dX12_wanted_26 : decode cX12_wanted 26 = .ok (.aload_n 0, 1) := by decide +kernel
theorem dX12_wanted_27 : decode cX12_wanted 27 = .ok (.getfield 19, 3) := by decide +kernel
theorem dX12_wanted_30 : decode cX12_wanted 30 = .ok (.iload_n 1, 1) := by decide +kernel
theorem dX12_wanted_31 : decode cX12_wanted 31 = .ok (.iaload, 1) := by decide +kernel
theorem dX12_wanted_32 : decode cX12_wanted 32 = .ok (.iconst (-1), 1) := by decide +kernel
theorem dX12_wanted_33 : decode cX12_wanted 33 = .ok (.if_icmp .ne 8, 3) := by decide +kernel
theorem dX12_wanted_36 : decode cX12_wanted 36 = .ok (.bipush (-3), 2) := by decide +kernel
theorem dX12_wanted_38 : decode cX12_wanted 38 = .ok (.goto 4, 3) := by decide +kernel
theorem dX12_wanted_41 : decode cX12_wanted 41 = .ok (.iconst 0, 1) := by decide +kernel
theorem dX12_wanted_42 : decode cX12_wanted 42 = .ok (.ireturn, 1) := by decide +kernel
theorem dX12_set_0 : decode cX12_set 0 = .ok (.aload_n 0, 1) := by decide +kernel
theorem dX12_set_1 : decode cX12_set 1 = .ok (.iload_n 1, 1) := by decide +kernel
theorem dX12_set_2 : decode cX12_set 2 = .ok (.invokevirtual 79, 3) := by decide +kernel
theorem dX12_set_5 : decode cX12_set 5 = .ok (.istore 5, 2) := by decide +kernel
theorem dX12_set_7 : decode cX12_set 7 = .ok (.iload 5, 2) := by decide +kernel
theorem dX12_set_9 : decode cX12_set 9 = .ok (.ifCond .eq 10, 3) := by decide +kernel
theorem dX12_set_12 : decode cX12_set 12 = .ok (.aload_n 0, 1) := by decide +kernel
theorem dX12_set_13 : decode cX12_set 13 = .ok (.iload 5, 2) := by decide +kernel
theorem dX12_set_15 : decode cX12_set 15 = .ok (.invokevirtual 75, 3) := by decide +kernel
theorem dX12_set_18 : decode cX12_set 18 = .ok (.ireturn, 1) := by decide +kernel
theorem dX12_set_19 : decode cX12_set 19 = .ok (.iload_n 2, 1) := by decide +kernel
theorem dX12_set_20 : decode cX12_set 20 = .ok (.iconst 0, 1) := by decide +kernel
theorem dX12_set_21 : decode cX12_set 21 = .ok (.aload_n 0, 1) := by decide +kernel
theorem dX12_set_22 : decode cX12_set 22 = .ok (.getfield 22, 3) := by decide +kernel
theorem dX12_set_25 : decode cX12_set 25 = .ok (.iload_n 1, 1) := by decide +kernel
theorem dX12_set_26 : decode cX12_set 26 = .ok (.iaload, 1) := by decide +kernel
theorem dX12_set_27 : decode cX12_set 27 = .ok (.iconst 1, 1) := by decide +kernel
theorem dX12_set_28 : decode cX12_set 28 = .ok (.isub, 1) := by decide +kernel
theorem dX12_set_29 : decode cX12_set 29 = .ok (.invokestatic 67, 3) := by decide +kernel
theorem dX12_set_32 : decode cX12_set 32 = .ok (.ifCond .ne 10, 3) := by decide +kernel
theorem dX12_set_35 : decode cX12_set 35 = .ok (.aload_n 0, 1) := by decide +kernel
theorem dX12_set_36 : decode cX12_set 36 = .ok (.bipush (-5), 2) := by decide +kernel
theorem dX12_set_38 : decode cX12_set 38 = .ok (.invokevirtual 75, 3) := by decide +kernel
theorem dX12_set_41 : decode cX12_set 41 = .ok (.ireturn, 1) := by decide +kernel
theorem dX12_set_42 : decode cX12_set 42 = .ok (.aload_n 0, 1) := by decide +kernel
theorem dX12_set_43 : decode cX12_set 43 = .ok (.getfield 25, 3) := by decide +kernel
theorem dX12_set_46 : decode cX12_set 46 = .ok (.sipush 160, 3) := by decide +kernel
theorem dX12_set_49 : decode cX12_set 49 = .ok (.iload_n 1, 1) := by decide +kernel
theorem dX12_set_50 : decode cX12_set 50 = .ok (.imul, 1) := by decide +kernel
theorem dX12_set_51 : decode cX12_set 51 = .ok (.iload_n 2, 1) := by decide +kernel
theorem dX12_set_52 : decode cX12_set 52 = .ok (.iadd, 1) := by decide +kernel
theorem dX12_set_53 : decode cX12_set 53 = .ok (.aload_n 0, 1) := by decide +kernel
theorem dX12_set_54 : decode cX12_set 54 = .ok (.getfield 19, 3) := by decide +kernel
theorem dX12_set_57 : decode cX12_set 57 = .ok (.iload_n 1, 1) := by decide +kernel
theorem dX12_set_58 : decode cX12_set 58 = .ok (.iaload, 1) := by decide +kernel
theorem dX12_set_59 : decode cX12_set 59 = .ok (.ifCond .ne 10, 3) := by decide +kernel
theorem dX12_set_62 : decode cX12_set 62 = .ok (.lload_n 3, 1) := by decide +kernel
theorem dX12_set_63 : decode cX12_set 63 = .ok (.l2i, 1) := by decide +kernel
theorem dX12_set_64 : decode cX12_set 64 = .ok (.i2b, 1) := by decide +kernel
theorem dX12_set_65 : decode cX12_set 65 = .ok (.i2l, 1) := by decide +kernel
theorem dX12_set_66 : decode cX12_set 66 = .ok (.goto 37, 3) := by decide +kernel
theorem dX12_set_69 : decode cX12_set 69 = .ok (.aload_n 0, 1) := by decide +kernel
theorem dX12_set_70 : decode cX12_set 70 = .ok (.getfield 19, 3) := by decide +kernel
theorem dX12_set_73 : decode cX12_set 73 = .ok (.iload_n 1, 1) := by decide +kernel
theorem dX12_set_74 : decode cX12_set 74 = .ok (.iaload, 1) := by decide +kernel
theorem dX12_set_75 : decode cX12_set 75 = .ok (.iconst 1, 1) := by decide +kernel
theorem dX12_set_76 : decode cX12_set 76 = .ok (.if_icmp .ne 10, 3) := by decide +kernel
theorem dX12_set_79 : decode cX12_set 79 = .ok (.lload_n 3, 1) := by decide +kernel
theorem dX12_set_80 : decode cX12_set 80 = .ok (.l2i, 1) := by decide +kernel
theorem dX12_set_81 : decode cX12_set 81 = .ok (.i2s, 1) := by decide +kernel
theorem dX12_set_82 : decode cX12_set 82 = .ok (.i2l, 1) := by decide +kernel
theorem dX12_set_83 : decode cX12_set 83 = .ok (.goto 20, 3) := by decide +kernel
theorem dX12_set_86 : decode cX12_set 86 = .ok (.aload_n 0, 1) := by decide +kernel
theorem dX12_set_87 : decode cX12_set 87 = .ok (.getfield 19, 3) := by decide +kernel
theorem dX12_set_90 : decode cX12_set 90 = .ok (.iload_n 1, 1) := by decide +kernel
theorem dX12_set_91 : decode cX12_set 91 = .ok (.iaload, 1) := by decide +kernel
theorem dX12_set_92 : decode cX12_set 92 = .ok (.iconst 2, 1) := by decide +kernel
theorem dX12_set_93 : decode cX12_set 93 = .ok (.if_icmp .ne 9, 3) := by decide +kernel
theorem dX12_set_96 : decode cX12_set 96 = .ok (.lload_n 3, 1) := by decide +kernel
theorem dX12_set_97 : decode cX12_set 97 = .ok (.l2i, 1) := by decide +kernel
theorem dX12_set_98 : decode cX12_set 98 = .ok (.i2l, 1) := by decide +kernel
theorem dX12_set_99 : decode cX12_set 99 = .ok (.goto 4, 3) := by decide +kernel
theorem dX12_set_102 : decode cX12_set 102 = .ok (.lload_n 3, 1) := by decide +kernel
theorem dX12_set_103 : decode cX12_set 103 = .ok (.lastore, 1) := by decide +kernel
theorem dX12_set_104 : decode cX12_set 104 = .ok (.iconst 1, 1) := by decide +kernel
theorem dX12_set_105 : decode cX12_set 105 = .ok (.ireturn, 1) := by decide +kernel
theorem dX12_copy_0 : decode cX12_copy 0 = .ok (.iload_n 1, 1) := by decide +kernel
theorem dX12_copy_1 : decode cX12_copy 1 = .ok (.invokestatic 71, 3) := by decide +kernel
theorem dX12_copy_4 : decode cX12_copy 4 = .ok (.ifCond .eq 10, 3) := by decide +kernel
theorem dX12_copy_7 : decode cX12_copy 7 = .ok (.iload_n 2, 1) := by decide +kernel
theorem dX12_copy_8 : decode cX12_copy 8 = .ok (.invokestatic 71, 3) := by decide +kernel
theorem dX12_copy_11 : decode cX12_copy 11 = .ok (.ifCond .ne 9, 3) := by decide +kernel
theorem dX12_copy_14 : decode cX12_copy 14 = .ok (.aload_n 0, 1) := by decide +kernel
theorem dX12_copy_15 : decode cX12_copy 15 = .ok (.iconst (-1), 1) := by decide +kernel
theorem dX12_copy_16 : decode cX12_copy 16 = .ok (.invokevirtual 75, 3) := by decide +kernel
theorem dX12_copy_19 : decode cX12_copy 19 = .ok (.ireturn, 1) := by decide +kernel
theorem dX12_copy_20 : decode cX12_copy 20 = .ok (.aload_n 0, 1) := by decide +kernel
theorem dX12_copy_21 : decode cX12_copy 21 = .ok (.getfield 19, 3) := by decide +kernel
theorem dX12_copy_24 : decode cX12_copy 24 = .ok (.iload_n 1, 1) := by decide +kernel
theorem dX12_copy_25 : decode cX12_copy 25 = .ok (.iaload, 1) := by decide +kernel
theorem dX12_copy_26 : decode cX12_copy 26 = .ok (.iconst 4, 1) := by decide +kernel
theorem dX12_copy_27 : decode cX12_copy 27 = .ok (.if_icmp .eq 48, 3) := by decide +kernel
theorem dX12_copy_30 : decode cX12_copy 30 = .ok (.aload_n 0, 1) := by decide +kernel
theorem dX12_copy_31 : decode cX12_copy 31 = .ok (.getfield 19, 3) := by decide +kernel
theorem dX12_copy_34 : decode cX12_copy 34 = .ok (.iload_n 2, 1) := by decide +kernel
theorem dX12_copy_35 : decode cX12_copy 35 = .ok (.iaload, 1) := by decide +kernel
theorem dX12_copy_36 : decode cX12_copy 36 = .ok (.iconst 4, 1) := by decide +kernel
theorem dX12_copy_37 : decode cX12_copy 37 = .ok (.if_icmp .eq 38, 3) := by decide +kernel
theorem dX12_copy_40 : decode cX12_copy 40 = .ok (.aload_n 0, 1) := by decide +kernel
theorem dX12_copy_41 : decode cX12_copy 41 = .ok (.getfield 19, 3) := by decide +kernel
theorem dX12_copy_44 : decode cX12_copy 44 = .ok (.iload_n 1, 1) := by decide +kernel
theorem dX12_copy_45 : decode cX12_copy 45 = .ok (.iaload, 1) := by decide +kernel
theorem dX12_copy_46 : decode cX12_copy 46 = .ok (.iconst (-1), 1) := by decide +kernel
theorem dX12_copy_47 : decode cX12_copy 47 = .ok (.if_icmp .eq 32, 3) := by decide +kernel
theorem dX12_copy_50 : decode cX12_copy 50 = .ok (.aload_n 0, 1) := by decide +kernel
theorem dX12_copy_51 : decode cX12_copy 51 = .ok (.getfield 19, 3) := by decide +kernel
theorem dX12_copy_54 : decode cX12_copy 54 = .ok (.iload_n 2, 1) := by decide +kernel
theorem dX12_copy_55 : decode cX12_copy 55 = .ok (.iaload, 1) := by decide +kernel
theorem dX12_copy_56 : decode cX12_copy 56 = .ok (.iconst (-1), 1) := by decide +kernel
theorem dX12_copy_57 : decode cX12_copy 57 = .ok (.if_icmp .eq 22, 3) := by decide +kernel
theorem dX12_copy_60 : decode cX12_copy 60 = .ok (.aload_n 0, 1) := by decide +kernel
theorem dX12_copy_61 : decode cX12_copy 61 = .ok (.getfield 19, 3) := by decide +kernel
theorem dX12_copy_64 : decode cX12_copy 64 = .ok (.iload_n 1, 1) := by decide +kernel
theorem dX12_copy_65 : decode cX12_copy 65 = .ok (.iaload, 1) := by decide +kernel
theorem dX12_copy_66 : decode cX12_copy 66 = .ok (.aload_n 0, 1) := by decide +kernel
theorem dX12_copy_67 : decode cX12_copy 67 = .ok (.getfield 19, 3) := by decide +kernel
theorem dX12_copy_70 : decode cX12_copy 70 = .ok (.iload_n 2, 1) := by decide +kernel
theorem dX12_copy_71 : decode cX12_copy 71 = .ok (.iaload, 1) := by decide +kernel
theorem dX12_copy_72 : decode cX12_copy 72 = .ok (.if_icmp .eq 7, 3) := by decide +kernel
theorem dX12_copy_75 : decode cX12_copy 75 = .ok (.iconst 1, 1) := by decide +kernel
theorem dX12_copy_76 : decode cX12_copy 76 = .ok (.goto 4, 3) := by decide +kernel
theorem dX12_copy_79 : decode cX12_copy 79 = .ok (.iconst 0, 1) := by decide +kernel
theorem dX12_copy_80 : decode cX12_copy 80 = .ok (.istore 6, 2) := by decide +kernel
theorem dX12_copy_82 : decode cX12_copy 82 = .ok (.iload 6, 2) := by decide +kernel
theorem dX12_copy_84 : decode cX12_copy 84 = .ok (.ifCond .eq 10, 3) := by decide +kernel
theorem dX12_copy_87 : decode cX12_copy 87 = .ok (.aload_n 0, 1) := by decide +kernel
theorem dX12_copy_88 : decode cX12_copy 88 = .ok (.bipush (-2), 2) := by decide +kernel
theorem dX12_copy_90 : decode cX12_copy 90 = .ok (.invokevirtual 75, 3) := by decide +kernel
theorem dX12_copy_93 : decode cX12_copy 93 = .ok (.ireturn, 1) := by decide +kernel
theorem dX12_copy_94 : decode cX12_copy 94 = .ok (.aload_n 0, 1) := by decide +kernel
theorem dX12_copy_95 : decode cX12_copy 95 = .ok (.getfield 19, 3) := by decide +kernel
theorem dX12_copy_98 : decode cX12_copy 98 = .ok (.iload_n 1, 1) := by decide +kernel
theorem dX12_copy_99 : decode cX12_copy 99 = .ok (.iaload, 1) := by decide +kernel
theorem dX12_copy_100 : decode cX12_copy 100 = .ok (.iconst (-1), 1) := by decide +kernel
theorem dX12_copy_101 : decode cX12_copy 101 = .ok (.if_icmp .eq 13, 3) := by decide +kernel
theorem dX12_copy_104 : decode cX12_copy 104 = .ok (.aload_n 0, 1) := by decide +kernel
theorem dX12_copy_105 : decode cX12_copy 105 = .ok (.getfield 19, 3) := by decide +kernel
theorem dX12_copy_108 : decode cX12_copy 108 = .ok (.iload_n 2, 1) := by decide +kernel
theorem dX12_copy_109 : decode cX12_copy 109 = .ok (.iaload, 1) := by decide +kernel
theorem dX12_copy_110 : decode cX12_copy 110 = .ok (.iconst (-1), 1) := by decide +kernel
theorem dX12_copy_111 : decode cX12_copy 111 = .ok (.if_icmp .ne 10, 3) := by decide +kernel
theorem dX12_copy_114 : decode cX12_copy 114 = .ok (.aload_n 0, 1) := by decide +kernel
theorem dX12_copy_115 : decode cX12_copy 115 = .ok (.bipush (-3), 2) := by decide +kernel
theorem dX12_copy_117 : decode cX12_copy 117 = .ok (.invokevirtual 75, 3) := by decide +kernel
theorem dX12_copy_120 : decode cX12_copy 120 = .ok (.ireturn, 1) := by decide +kernel
theorem dX12_copy_121 : decode cX12_copy 121 = .ok (.iload 5, 2) := by decide +kernel
theorem dX12_copy_123 : decode cX12_copy 123 = .ok (.ifCond .ge 10, 3) := by decide +kernel
theorem dX12_copy_126 : decode cX12_copy 126 = .ok (.aload_n 0, 1) := by decide +kernel
theorem dX12_copy_127 : decode cX12_copy 127 = .ok (.bipush (-4), 2) := by decide +kernel
theorem dX12_copy_129 : decode cX12_copy 129 = .ok (.invokevirtual 75, 3) := by decide +kernel
theorem dX12_copy_132 : decode cX12_copy 132 = .ok (.ireturn, 1) := by decide +kernel
theorem dX12_copy_133 : decode cX12_copy 133 = .ok (.iload_n 3, 1) := by decide +kernel
theorem dX12_copy_134 : decode cX12_copy 134 = .ok (.ifCond .lt 43, 3) := by decide +kernel
theorem dX12_copy_137 : decode cX12_copy 137 = .ok (.iload 4, 2) := by decide +kernel
theorem dX12_copy_139 : decode cX12_copy 139 = .ok (.ifCond .lt 38, 3) := by decide +kernel
theorem dX12_copy_142 : decode cX12_copy 142 = .ok (.iload_n 3, 1) := by decide +kernel
theorem dX12_copy_143 : decode cX12_copy 143 = .ok (.i2l, 1) := by decide +kernel
theorem dX12_copy_144 : decode cX12_copy 144 = .ok (.iload 5, 2) := by decide +kernel
theorem dX12_copy_146 : decode cX12_copy 146 = .ok (.i2l, 1) := by decide +kernel
theorem dX12_copy_147 : decode cX12_copy 147 = .ok (.ladd, 1) := by decide +kernel
theorem dX12_copy_148 : decode cX12_copy 148 = .ok (.aload_n 0, 1) := by decide +kernel
theorem dX12_copy_149 : decode cX12_copy 149 = .ok (.getfield 22, 3) := by decide +kernel
theorem dX12_copy_152 : decode cX12_copy 152 = .ok (.iload_n 1, 1) := by decide +kernel
theorem dX12_copy_153 : decode cX12_copy 153 = .ok (.iaload, 1) := by decide +kernel
theorem dX12_copy_154 : decode cX12_copy 154 = .ok (.i2l, 1) := by decide +kernel
theorem dX12_copy_155 : decode cX12_copy 155 = .ok (.lcmp, 1) := by decide +kernel
theorem dX12_copy_156 : decode cX12_copy 156 = .ok (.ifCond .gt 21, 3) := by decide +kernel
theorem dX12_copy_159 : decode cX12_copy 159 = .ok (.iload 4, 2) := by decide +kernel
theorem dX12_copy_161 : decode cX12_copy 161 = .ok (.i2l, 1) := by decide +kernel
theorem dX12_copy_162 : decode cX12_copy 162 = .ok (.iload 5, 2) := by decide +kernel
theorem dX12_copy_164 : decode cX12_copy 164 = .ok (.i2l, 1) := by decide +kernel
theorem dX12_copy_165 : decode cX12_copy 165 = .ok (.ladd, 1) := by decide +kernel
theorem dX12_copy_166 : decode cX12_copy 166 = .ok (.aload_n 0, 1) := by decide +kernel
theorem dX12_copy_167 : decode cX12_copy 167 = .ok (.getfield 22, 3) := by decide +kernel
theorem dX12_copy_170 : decode cX12_copy 170 = .ok (.iload_n 2, 1) := by decide +kernel
theorem dX12_copy_171 : decode cX12_copy 171 = .ok (.iaload, 1) := by decide +kernel
theorem dX12_copy_172 : decode cX12_copy 172 = .ok (.i2l, 1) := by decide +kernel
theorem dX12_copy_173 : decode cX12_copy 173 = .ok (.lcmp, 1) := by decide +kernel
theorem dX12_copy_174 : decode cX12_copy 174 = .ok (.ifCond .le 10, 3) := by decide +kernel
theorem dX12_copy_177 : decode cX12_copy 177 = .ok (.aload_n 0, 1) := by decide +kernel
theorem dX12_copy_178 : decode cX12_copy 178 = .ok (.bipush (-5), 2) := by decide +kernel
theorem dX12_copy_180 : decode cX12_copy 180 = .ok (.invokevirtual 75, 3) := by decide +kernel
theorem dX12_copy_183 : decode cX12_copy 183 = .ok (.ireturn, 1) := by decide +kernel
theorem dX12_copy_184 : decode cX12_copy 184 = .ok (.iconst 0, 1) := by decide +kernel
theorem dX12_copy_185 : decode cX12_copy 185 = .ok (.istore 7, 2) := by decide +kernel
theorem dX12_copy_187 : decode cX12_copy 187 = .ok (.iload 7, 2) := by decide +kernel
theorem dX12_copy_189 : decode cX12_copy 189 = .ok (.iload 5, 2) := by decide +kernel
theorem dX12_copy_191 : decode cX12_copy 191 = .ok (.if_icmp .ge 31, 3) := by decide +kernel
theorem dX12_copy_194 : decode cX12_copy 194 = .ok (.aload_n 0, 1) := by decide +kernel
theorem dX12_copy_195 : decode cX12_copy 195 = .ok (.getfield 29, 3) := by decide +kernel
theorem dX12_copy_198 : decode cX12_copy 198 = .ok (.iload 7, 2) := by decide +kernel
theorem dX12_copy_200 : decode cX12_copy 200 = .ok (.aload_n 0, 1) := by decide +kernel
theorem dX12_copy_201 : decode cX12_copy 201 = .ok (.getfield 25, 3) := by decide +kernel
theorem dX12_copy_204 : decode cX12_copy 204 = .ok (.sipush 160, 3) := by decide +kernel
theorem dX12_copy_207 : decode cX12_copy 207 = .ok (.iload_n 1, 1) := by decide +kernel
theorem dX12_copy_208 : decode cX12_copy 208 = .ok (.imul, 1) := by decide +kernel
theorem dX12_copy_209 : decode cX12_copy 209 = .ok (.iload_n 3, 1) := by decide +kernel
theorem dX12_copy_210 : decode cX12_copy 210 = .ok (.iadd, 1) := by decide +kernel
theorem dX12_copy_211 : decode cX12_copy 211 = .ok (.iload 7, 2) := by decide +kernel
theorem dX12_copy_213 : decode cX12_copy 213 = .ok (.iadd, 1) := by decide +kernel
theorem dX12_copy_214 : decode cX12_copy 214 = .ok (.laload, 1) := by decide +kernel
theorem dX12_copy_215 : decode cX12_copy 215 = .ok (.lastore, 1) := by decide +kernel
theorem dX12_copy_216 : decode cX12_copy 216 = .ok (.iinc 7 1, 3) := by decide +kernel
theorem dX12_copy_219 : decode cX12_copy 219 = .ok (.goto (-32), 3) := by decide +kernel
theorem dX12_copy_222 : decode cX12_copy 222 = .ok (.iconst 0, 1) := by decide +kernel
theorem dX12_copy_223 : decode cX12_copy 223 = .ok (.istore 7, 2) := by decide +kernel
theorem dX12_copy_225 : decode cX12_copy 225 = .ok (.iload 7, 2) := by decide +kernel
theorem dX12_copy_227 : decode cX12_copy 227 = .ok (.iload 5, 2) := by decide +kernel
theorem dX12_copy_229 : decode cX12_copy 229 = .ok (.if_icmp .ge 32, 3) := by decide +kernel
theorem dX12_copy_232 : decode cX12_copy 232 = .ok (.aload_n 0, 1) := by decide +kernel
theorem dX12_copy_233 : decode cX12_copy 233 = .ok (.getfield 25, 3) := by decide +kernel
theorem dX12_copy_236 : decode cX12_copy 236 = .ok (.sipush 160, 3) := by decide +kernel
theorem dX12_copy_239 : decode cX12_copy 239 = .ok (.iload_n 2, 1) := by decide +kernel
theorem dX12_copy_240 : decode cX12_copy 240 = .ok (.imul, 1) := by decide +kernel
theorem dX12_copy_241 : decode cX12_copy 241 = .ok (.iload 4, 2) := by decide +kernel
theorem dX12_copy_243 : decode cX12_copy 243 = .ok (.iadd, 1) := by decide +kernel
theorem dX12_copy_244 : decode cX12_copy 244 = .ok (.iload 7, 2) := by decide +kernel
theorem dX12_copy_246 : decode cX12_copy 246 = .ok (.iadd, 1) := by decide +kernel
theorem dX12_copy_247 : decode cX12_copy 247 = .ok (.aload_n 0, 1) := by decide +kernel
theorem dX12_copy_248 : decode cX12_copy 248 = .ok (.getfield 29, 3) := by decide +kernel
theorem dX12_copy_251 : decode cX12_copy 251 = .ok (.iload 7, 2) := by decide +kernel
theorem dX12_copy_253 : decode cX12_copy 253 = .ok (.laload, 1) := by decide +kernel
theorem dX12_copy_254 : decode cX12_copy 254 = .ok (.lastore, 1) := by decide +kernel
theorem dX12_copy_255 : decode cX12_copy 255 = .ok (.iinc 7 1, 3) := by decide +kernel
theorem dX12_copy_258 : decode cX12_copy 258 = .ok (.goto (-33), 3) := by decide +kernel
theorem dX12_copy_261 : decode cX12_copy 261 = .ok (.iconst 1, 1) := by decide +kernel
theorem dX12_copy_262 : decode cX12_copy 262 = .ok (.ireturn, 1) := by decide +kernel
theorem dX12_isRow_0 : decode cX12_isRow 0 = .ok (.iload_n 1, 1) := by decide +kernel
theorem dX12_isRow_1 : decode cX12_isRow 1 = .ok (.invokestatic 71, 3) := by decide +kernel
theorem dX12_isRow_4 : decode cX12_isRow 4 = .ok (.ifCond .eq 21, 3) := by decide +kernel
theorem dX12_isRow_7 : decode cX12_isRow 7 = .ok (.aload_n 0, 1) := by decide +kernel
theorem dX12_isRow_8 : decode cX12_isRow 8 = .ok (.getfield 19, 3) := by decide +kernel
theorem dX12_isRow_11 : decode cX12_isRow 11 = .ok (.iload_n 1, 1) := by decide +kernel
theorem dX12_isRow_12 : decode cX12_isRow 12 = .ok (.iaload, 1) := by decide +kernel
theorem dX12_isRow_13 : decode cX12_isRow 13 = .ok (.iconst 0, 1) := by decide +kernel
theorem dX12_isRow_14 : decode cX12_isRow 14 = .ok (.iconst 3, 1) := by decide +kernel
theorem dX12_isRow_15 : decode cX12_isRow 15 = .ok (.invokestatic 67, 3) := by decide +kernel
theorem dX12_isRow_18 : decode cX12_isRow 18 = .ok (.ifCond .eq 7, 3) := by decide +kernel
theorem dX12_isRow_21 : decode cX12_isRow 21 = .ok (.iconst 1, 1) := by decide +kernel
theorem dX12_isRow_22 : decode cX12_isRow 22 = .ok (.goto 4, 3) := by decide +kernel
theorem dX12_isRow_25 : decode cX12_isRow 25 = .ok (.iconst 0, 1) := by decide +kernel
theorem dX12_isRow_26 : decode cX12_isRow 26 = .ok (.ireturn, 1) := by decide +kernel
theorem dX12_element_0 : decode cX12_element 0 = .ok (.aload_n 0, 1) := by decide +kernel
theorem dX12_element_1 : decode cX12_element 1 = .ok (.iload_n 1, 1) := by decide +kernel
theorem dX12_element_2 : decode cX12_element 2 = .ok (.invokevirtual 82, 3) := by decide +kernel
theorem dX12_element_5 : decode cX12_element 5 = .ok (.ifCond .eq 34, 3) := by decide +kernel
theorem dX12_element_8 : decode cX12_element 8 = .ok (.iload_n 2, 1) := by decide +kernel
theorem dX12_element_9 : decode cX12_element 9 = .ok (.iconst 0, 1) := by decide +kernel
theorem dX12_element_10 : decode cX12_element 10 = .ok (.aload_n 0, 1) := by decide +kernel
theorem dX12_element_11 : decode cX12_element 11 = .ok (.getfield 22, 3) := by decide +kernel
theorem dX12_element_14 : decode cX12_element 14 = .ok (.iload_n 1, 1) := by decide +kernel
theorem dX12_element_15 : decode cX12_element 15 = .ok (.iaload, 1) := by decide +kernel
theorem dX12_element_16 : decode cX12_element 16 = .ok (.iconst 1, 1) := by decide +kernel
theorem dX12_element_17 : decode cX12_element 17 = .ok (.isub, 1) := by decide +kernel
theorem dX12_element_18 : decode cX12_element 18 = .ok (.invokestatic 67, 3) := by decide +kernel
theorem dX12_element_21 : decode cX12_element 21 = .ok (.ifCond .eq 18, 3) := by decide +kernel
theorem dX12_element_24 : decode cX12_element 24 = .ok (.aload_n 0, 1) := by decide +kernel
theorem dX12_element_25 : decode cX12_element 25 = .ok (.getfield 25, 3) := by decide +kernel
theorem dX12_element_28 : decode cX12_element 28 = .ok (.sipush 160, 3) := by decide +kernel
theorem dX12_element_31 : decode cX12_element 31 = .ok (.iload_n 1, 1) := by decide +kernel
theorem dX12_element_32 : decode cX12_element 32 = .ok (.imul, 1) := by decide +kernel
theorem dX12_element_33 : decode cX12_element 33 = .ok (.iload_n 2, 1) := by decide +kernel
theorem dX12_element_34 : decode cX12_element 34 = .ok (.iadd, 1) := by decide +kernel
theorem dX12_element_35 : decode cX12_element 35 = .ok (.laload, 1) := by decide +kernel
theorem dX12_element_36 : decode cX12_element 36 = .ok (.goto 4, 3) := by decide +kernel
theorem dX12_element_39 : decode cX12_element 39 = .ok (.lconst 0, 1) := by decide +kernel
theorem dX12_element_40 : decode cX12_element 40 = .ok (.lreturn, 1) := by decide +kernel
theorem dX12_show_0 : decode cX12_show 0 = .ok (.iload_n 1, 1) := by decide +kernel
theorem dX12_show_1 : decode cX12_show 1 = .ok (.invokestatic 71, 3) := by decide +kernel
theorem dX12_show_4 : decode cX12_show 4 = .ok (.ifCond .eq 16, 3) := by decide +kernel
theorem dX12_show_7 : decode cX12_show 7 = .ok (.iload_n 2, 1) := by decide +kernel
theorem dX12_show_8 : decode cX12_show 8 = .ok (.iconst (-1), 1) := by decide +kernel
theorem dX12_show_9 : decode cX12_show 9 = .ok (.if_icmp .eq 17, 3) := by decide +kernel
theorem dX12_show_12 : decode cX12_show 12 = .ok (.aload_n 0, 1) := by decide +kernel
theorem dX12_show_13 : decode cX12_show 13 = .ok (.iload_n 2, 1) := by decide +kernel
theorem dX12_show_14 : decode cX12_show 14 = .ok (.invokevirtual 85, 3) := by decide +kernel
theorem dX12_show_17 : decode cX12_show 17 = .ok (.ifCond .ne 9, 3) := by decide +kernel
theorem dX12_show_20 : decode cX12_show 20 = .ok (.aload_n 0, 1) := by decide +kernel
theorem dX12_show_21 : decode cX12_show 21 = .ok (.iconst (-1), 1) := by decide +kernel
theorem dX12_show_22 : decode cX12_show 22 = .ok (.invokevirtual 75, 3) := by decide +kernel
theorem dX12_show_25 : decode cX12_show 25 = .ok (.ireturn, 1) := by decide +kernel
theorem dX12_show_26 : decode cX12_show 26 = .ok (.aload_n 0, 1) := by decide +kernel
theorem dX12_show_27 : decode cX12_show 27 = .ok (.getfield 19, 3) := by decide +kernel
theorem dX12_show_30 : decode cX12_show 30 = .ok (.iload_n 1, 1) := by decide +kernel
theorem dX12_show_31 : decode cX12_show 31 = .ok (.iload_n 2, 1) := by decide +kernel
theorem dX12_show_32 : decode cX12_show 32 = .ok (.iconst (-1), 1) := by decide +kernel
theorem dX12_show_33 : decode cX12_show 33 = .ok (.if_icmp .ne 7, 3) := by decide +kernel
theorem dX12_show_36 : decode cX12_show 36 = .ok (.iconst (-1), 1) := by decide +kernel
theorem dX12_show_37 : decode cX12_show 37 = .ok (.goto 4, 3) := by decide +kernel
theorem dX12_show_40 : decode cX12_show 40 = .ok (.iconst 4, 1) := by decide +kernel
theorem dX12_show_41 : decode cX12_show 41 = .ok (.iastore, 1) := by decide +kernel
theorem dX12_show_42 : decode cX12_show 42 = .ok (.aload_n 0, 1) := by decide +kernel
theorem dX12_show_43 : decode cX12_show 43 = .ok (.getfield 22, 3) := by decide +kernel
theorem dX12_show_46 : decode cX12_show 46 = .ok (.iload_n 1, 1) := by decide +kernel
theorem dX12_show_47 : decode cX12_show 47 = .ok (.iload_n 2, 1) := by decide +kernel
theorem dX12_show_48 : decode cX12_show 48 = .ok (.iconst (-1), 1) := by decide +kernel
theorem dX12_show_49 : decode cX12_show 49 = .ok (.if_icmp .ne 7, 3) := by decide +kernel
theorem dX12_show_52 : decode cX12_show 52 = .ok (.iconst 0, 1) := by decide +kernel
theorem dX12_show_53 : decode cX12_show 53 = .ok (.goto 4, 3) := by decide +kernel
theorem dX12_show_56 : decode cX12_show 56 = .ok (.iload_n 2, 1) := by decide +kernel
theorem dX12_show_57 : decode cX12_show 57 = .ok (.iastore, 1) := by decide +kernel
theorem dX12_show_58 : decode cX12_show 58 = .ok (.iload_n 2, 1) := by decide +kernel
theorem dX12_show_59 : decode cX12_show 59 = .ok (.iconst (-1), 1) := by decide +kernel
theorem dX12_show_60 : decode cX12_show 60 = .ok (.if_icmp .ne 7, 3) := by decide +kernel
theorem dX12_show_63 : decode cX12_show 63 = .ok (.iconst 0, 1) := by decide +kernel
theorem dX12_show_64 : decode cX12_show 64 = .ok (.goto 4, 3) := by decide +kernel
theorem dX12_show_67 : decode cX12_show 67 = .ok (.iconst 1, 1) := by decide +kernel
theorem dX12_show_68 : decode cX12_show 68 = .ok (.ireturn, 1) := by decide +kernel
theorem dX12_holds_0 : decode cX12_holds 0 = .ok (.iload_n 1, 1) := by decide +kernel
theorem dX12_holds_1 : decode cX12_holds 1 = .ok (.invokestatic 71, 3) := by decide +kernel
theorem dX12_holds_4 : decode cX12_holds 4 = .ok (.ifCond .eq 13, 3) := by decide +kernel
theorem dX12_holds_7 : decode cX12_holds 7 = .ok (.aload_n 0, 1) := by decide +kernel
theorem dX12_holds_8 : decode cX12_holds 8 = .ok (.getfield 19, 3) := by decide +kernel
theorem dX12_holds_11 : decode cX12_holds 11 = .ok (.iload_n 1, 1) := by decide +kernel
theorem dX12_holds_12 : decode cX12_holds 12 = .ok (.iaload, 1) := by decide +kernel
theorem dX12_holds_13 : decode cX12_holds 13 = .ok (.iconst (-1), 1) := by decide +kernel
theorem dX12_holds_14 : decode cX12_holds 14 = .ok (.if_icmp .ne 7, 3) := by decide +kernel
theorem dX12_holds_17 : decode cX12_holds 17 = .ok (.iconst (-1), 1) := by decide +kernel
theorem dX12_holds_18 : decode cX12_holds 18 = .ok (.goto 31, 3) := by decide +kernel
theorem dX12_holds_21 : decode cX12_holds 21 = .ok (.aload_n 0, 1) := by decide +kernel
theorem dX12_holds_22 : decode cX12_holds 22 = .ok (.getfield 19, 3) := by decide +kernel
theorem dX12_holds_25 : decode cX12_holds 25 = .ok (.iload_n 1, 1) := by decide +kernel
theorem dX12_holds_26 : decode cX12_holds 26 = .ok (.iaload, 1) := by decide +kernel
theorem dX12_holds_27 : decode cX12_holds 27 = .ok (.iconst 4, 1) := by decide +kernel
theorem dX12_holds_28 : decode cX12_holds 28 = .ok (.if_icmp .ne 12, 3) := by decide +kernel
theorem dX12_holds_31 : decode cX12_holds 31 = .ok (.aload_n 0, 1) := by decide +kernel
theorem dX12_holds_32 : decode cX12_holds 32 = .ok (.getfield 22, 3) := by decide +kernel
theorem dX12_holds_35 : decode cX12_holds 35 = .ok (.iload_n 1, 1) := by decide +kernel
theorem dX12_holds_36 : decode cX12_holds 36 = .ok (.iaload, 1) := by decide +kernel
theorem dX12_holds_37 : decode cX12_holds 37 = .ok (.goto 12, 3) := by decide +kernel
theorem dX12_holds_40 : decode cX12_holds 40 = .ok (.bipush 100, 2) := by decide +kernel
theorem dX12_holds_42 : decode cX12_holds 42 = .ok (.aload_n 0, 1) := by decide +kernel
theorem dX12_holds_43 : decode cX12_holds 43 = .ok (.getfield 19, 3) := by decide +kernel
theorem dX12_holds_46 : decode cX12_holds 46 = .ok (.iload_n 1, 1) := by decide +kernel
theorem dX12_holds_47 : decode cX12_holds 47 = .ok (.iaload, 1) := by decide +kernel
theorem dX12_holds_48 : decode cX12_holds 48 = .ok (.iadd, 1) := by decide +kernel
theorem dX12_holds_49 : decode cX12_holds 49 = .ok (.ireturn, 1) := by decide +kernel
theorem dX12_plain_0 : decode cX12_plain 0 = .ok (.aload_n 0, 1) := by decide +kernel
theorem dX12_plain_1 : decode cX12_plain 1 = .ok (.getfield 7, 3) := by decide +kernel
theorem dX12_plain_4 : decode cX12_plain 4 = .ok (.bipush 96, 2) := by decide +kernel
theorem dX12_plain_6 : decode cX12_plain 6 = .ok (.iload_n 1, 1) := by decide +kernel
theorem dX12_plain_7 : decode cX12_plain 7 = .ok (.iadd, 1) := by decide +kernel
theorem dX12_plain_8 : decode cX12_plain 8 = .ok (.iaload, 1) := by decide +kernel
theorem dX12_plain_9 : decode cX12_plain 9 = .ok (.ifCond .ne 7, 3) := by decide +kernel
theorem dX12_plain_12 : decode cX12_plain 12 = .ok (.iconst 1, 1) := by decide +kernel
theorem dX12_plain_13 : decode cX12_plain 13 = .ok (.goto 31, 3) := by decide +kernel
theorem dX12_plain_16 : decode cX12_plain 16 = .ok (.aload_n 0, 1) := by decide +kernel
theorem dX12_plain_17 : decode cX12_plain 17 = .ok (.aload_n 0, 1) := by decide +kernel
theorem dX12_plain_18 : decode cX12_plain 18 = .ok (.getfield 7, 3) := by decide +kernel
theorem dX12_plain_21 : decode cX12_plain 21 = .ok (.bipush 120, 2) := by decide +kernel
theorem dX12_plain_23 : decode cX12_plain 23 = .ok (.iload_n 1, 1) := by decide +kernel
theorem dX12_plain_24 : decode cX12_plain 24 = .ok (.iadd, 1) := by decide +kernel
theorem dX12_plain_25 : decode cX12_plain 25 = .ok (.iaload, 1) := by decide +kernel
theorem dX12_plain_26 : decode cX12_plain 26 = .ok (.invokevirtual 88, 3) := by decide +kernel
theorem dX12_plain_29 : decode cX12_plain 29 = .ok (.aload_n 0, 1) := by decide +kernel
theorem dX12_plain_30 : decode cX12_plain 30 = .ok (.aload_n 0, 1) := by decide +kernel
theorem dX12_plain_31 : decode cX12_plain 31 = .ok (.getfield 7, 3) := by decide +kernel
theorem dX12_plain_34 : decode cX12_plain 34 = .ok (.sipush 144, 3) := by decide +kernel
theorem dX12_plain_37 : decode cX12_plain 37 = .ok (.iload_n 1, 1) := by decide +kernel
theorem dX12_plain_38 : decode cX12_plain 38 = .ok (.iadd, 1) := by decide +kernel
theorem dX12_plain_39 : decode cX12_plain 39 = .ok (.iaload, 1) := by decide +kernel
theorem dX12_plain_40 : decode cX12_plain 40 = .ok (.invokevirtual 88, 3) := by decide +kernel
theorem dX12_plain_43 : decode cX12_plain 43 = .ok (.iadd, 1) := by decide +kernel
theorem dX12_plain_44 : decode cX12_plain 44 = .ok (.ireturn, 1) := by decide +kernel
theorem dX12_says_0 : decode cX12_says 0 = .ok (.iload_n 1, 1) := by decide +kernel
theorem dX12_says_1 : decode cX12_says 1 = .ok (.invokestatic 71, 3) := by decide +kernel
theorem dX12_says_4 : decode cX12_says 4 = .ok (.ifCond .eq 12, 3) := by decide +kernel
theorem dX12_says_7 : decode cX12_says 7 = .ok (.iload_n 2, 1) := by decide +kernel
theorem dX12_says_8 : decode cX12_says 8 = .ok (.iconst 0, 1) := by decide +kernel
theorem dX12_says_9 : decode cX12_says 9 = .ok (.iconst 2, 1) := by decide +kernel
theorem dX12_says_10 : decode cX12_says 10 = .ok (.invokestatic 67, 3) := by decide +kernel
theorem dX12_says_13 : decode cX12_says 13 = .ok (.ifCond .ne 9, 3) := by decide +kernel
theorem dX12_says_16 : decode cX12_says 16 = .ok (.aload_n 0, 1) := by decide +kernel
theorem dX12_says_17 : decode cX12_says 17 = .ok (.iconst (-1), 1) := by decide +kernel
theorem dX12_says_18 : decode cX12_says 18 = .ok (.invokevirtual 75, 3) := by decide +kernel
theorem dX12_says_21 : decode cX12_says 21 = .ok (.ireturn, 1) := by decide +kernel
theorem dX12_says_22 : decode cX12_says 22 = .ok (.aload_n 0, 1) := by decide +kernel
theorem dX12_says_23 : decode cX12_says 23 = .ok (.getfield 19, 3) := by decide +kernel
theorem dX12_says_26 : decode cX12_says 26 = .ok (.iload_n 1, 1) := by decide +kernel
theorem dX12_says_27 : decode cX12_says 27 = .ok (.iaload, 1) := by decide +kernel
theorem dX12_says_28 : decode cX12_says 28 = .ok (.iconst 0, 1) := by decide +kernel
theorem dX12_says_29 : decode cX12_says 29 = .ok (.iconst 3, 1) := by decide +kernel
theorem dX12_says_30 : decode cX12_says 30 = .ok (.invokestatic 67, 3) := by decide +kernel
theorem dX12_says_33 : decode cX12_says 33 = .ok (.ifCond .ne 31, 3) := by decide +kernel
theorem dX12_says_36 : decode cX12_says 36 = .ok (.aload_n 0, 1) := by decide +kernel
theorem dX12_says_37 : decode cX12_says 37 = .ok (.getfield 19, 3) := by decide +kernel
theorem dX12_says_40 : decode cX12_says 40 = .ok (.iload_n 1, 1) := by decide +kernel
theorem dX12_says_41 : decode cX12_says 41 = .ok (.iaload, 1) := by decide +kernel
theorem dX12_says_42 : decode cX12_says 42 = .ok (.iconst 4, 1) := by decide +kernel
theorem dX12_says_43 : decode cX12_says 43 = .ok (.if_icmp .ne 28, 3) := by decide +kernel
theorem dX12_says_46 : decode cX12_says 46 = .ok (.aload_n 0, 1) := by decide +kernel
theorem dX12_says_47 : decode cX12_says 47 = .ok (.getfield 7, 3) := by decide +kernel
theorem dX12_says_50 : decode cX12_says 50 = .ok (.bipush 96, 2) := by decide +kernel
theorem dX12_says_52 : decode cX12_says 52 = .ok (.aload_n 0, 1) := by decide +kernel
theorem dX12_says_53 : decode cX12_says 53 = .ok (.getfield 22, 3) := by decide +kernel
theorem dX12_says_56 : decode cX12_says 56 = .ok (.iload_n 1, 1) := by decide +kernel
theorem dX12_says_57 : decode cX12_says 57 = .ok (.iaload, 1) := by decide +kernel
theorem dX12_says_58 : decode cX12_says 58 = .ok (.iadd, 1) := by decide +kernel
theorem dX12_says_59 : decode cX12_says 59 = .ok (.iaload, 1) := by decide +kernel
theorem dX12_says_60 : decode cX12_says 60 = .ok (.iload_n 2, 1) := by decide +kernel
theorem dX12_says_61 : decode cX12_says 61 = .ok (.if_icmp .ge 10, 3) := by decide +kernel
theorem dX12_says_64 : decode cX12_says 64 = .ok (.aload_n 0, 1) := by decide +kernel
theorem dX12_says_65 : decode cX12_says 65 = .ok (.bipush (-2), 2) := by decide +kernel
theorem dX12_says_67 : decode cX12_says 67 = .ok (.invokevirtual 75, 3) := by decide +kernel
theorem dX12_says_70 : decode cX12_says 70 = .ok (.ireturn, 1) := by decide +kernel
theorem dX12_says_71 : decode cX12_says 71 = .ok (.aload_n 0, 1) := by decide +kernel
theorem dX12_says_72 : decode cX12_says 72 = .ok (.getfield 19, 3) := by decide +kernel
theorem dX12_says_75 : decode cX12_says 75 = .ok (.iload_n 1, 1) := by decide +kernel
theorem dX12_says_76 : decode cX12_says 76 = .ok (.iaload, 1) := by decide +kernel
theorem dX12_says_77 : decode cX12_says 77 = .ok (.iconst (-1), 1) := by decide +kernel
theorem dX12_says_78 : decode cX12_says 78 = .ok (.if_icmp .ne 10, 3) := by decide +kernel
theorem dX12_says_81 : decode cX12_says 81 = .ok (.aload_n 0, 1) := by decide +kernel
theorem dX12_says_82 : decode cX12_says 82 = .ok (.bipush (-3), 2) := by decide +kernel
theorem dX12_says_84 : decode cX12_says 84 = .ok (.invokevirtual 75, 3) := by decide +kernel
theorem dX12_says_87 : decode cX12_says 87 = .ok (.ireturn, 1) := by decide +kernel
theorem dX12_says_88 : decode cX12_says 88 = .ok (.aload_n 0, 1) := by decide +kernel
theorem dX12_says_89 : decode cX12_says 89 = .ok (.getfield 22, 3) := by decide +kernel
theorem dX12_says_92 : decode cX12_says 92 = .ok (.iload_n 1, 1) := by decide +kernel
theorem dX12_says_93 : decode cX12_says 93 = .ok (.iaload, 1) := by decide +kernel
theorem dX12_says_94 : decode cX12_says 94 = .ok (.istore_n 3, 1) := by decide +kernel
theorem dX12_says_95 : decode cX12_says 95 = .ok (.iload_n 2, 1) := by decide +kernel
theorem dX12_says_96 : decode cX12_says 96 = .ok (.ifCond .ne 15, 3) := by decide +kernel
theorem dX12_says_99 : decode cX12_says 99 = .ok (.aload_n 0, 1) := by decide +kernel
theorem dX12_says_100 : decode cX12_says 100 = .ok (.getfield 7, 3) := by decide +kernel
theorem dX12_says_103 : decode cX12_says 103 = .ok (.bipush 72, 2) := by decide +kernel
theorem dX12_says_105 : decode cX12_says 105 = .ok (.iload_n 3, 1) := by decide +kernel
theorem dX12_says_106 : decode cX12_says 106 = .ok (.iadd, 1) := by decide +kernel
theorem dX12_says_107 : decode cX12_says 107 = .ok (.iaload, 1) := by decide +kernel
theorem dX12_says_108 : decode cX12_says 108 = .ok (.goto 39, 3) := by decide +kernel
theorem dX12_says_111 : decode cX12_says 111 = .ok (.iload_n 2, 1) := by decide +kernel
theorem dX12_says_112 : decode cX12_says 112 = .ok (.iconst 1, 1) := by decide +kernel
theorem dX12_says_113 : decode cX12_says 113 = .ok (.if_icmp .ne 29, 3) := by decide +kernel
theorem dX12_says_116 : decode cX12_says 116 = .ok (.bipush 100, 2) := by decide +kernel
theorem dX12_says_118 : decode cX12_says 118 = .ok (.aload_n 0, 1) := by decide +kernel
theorem dX12_says_119 : decode cX12_says 119 = .ok (.getfield 7, 3) := by decide +kernel
theorem dX12_says_122 : decode cX12_says 122 = .ok (.bipush 120, 2) := by decide +kernel
theorem dX12_says_124 : decode cX12_says 124 = .ok (.iload_n 3, 1) := by decide +kernel
theorem dX12_says_125 : decode cX12_says 125 = .ok (.iadd, 1) := by decide +kernel
theorem dX12_says_126 : decode cX12_says 126 = .ok (.iaload, 1) := by decide +kernel
theorem dX12_says_127 : decode cX12_says 127 = .ok (.imul, 1) := by decide +kernel
theorem dX12_says_128 : decode cX12_says 128 = .ok (.aload_n 0, 1) := by decide +kernel
theorem dX12_says_129 : decode cX12_says 129 = .ok (.getfield 7, 3) := by decide +kernel
theorem dX12_says_132 : decode cX12_says 132 = .ok (.sipush 144, 3) := by decide +kernel
theorem dX12_says_135 : decode cX12_says 135 = .ok (.iload_n 3, 1) := by decide +kernel
theorem dX12_says_136 : decode cX12_says 136 = .ok (.iadd, 1) := by decide +kernel
theorem dX12_says_137 : decode cX12_says 137 = .ok (.iaload, 1) := by decide +kernel
theorem dX12_says_138 : decode cX12_says 138 = .ok (.iadd, 1) := by decide +kernel
theorem dX12_says_139 : decode cX12_says 139 = .ok (.goto 8, 3) := by decide +kernel
theorem dX12_says_142 : decode cX12_says 142 = .ok (.aload_n 0, 1) := by decide +kernel
theorem dX12_says_143 : decode cX12_says 143 = .ok (.iload_n 3, 1) := by decide +kernel
theorem dX12_says_144 : decode cX12_says 144 = .ok (.invokevirtual 88, 3) := by decide +kernel
theorem dX12_says_147 : decode cX12_says 147 = .ok (.ireturn, 1) := by decide +kernel
theorem dX12_comes_0 : decode cX12_comes 0 = .ok (.aload_n 0, 1) := by decide +kernel
theorem dX12_comes_1 : decode cX12_comes 1 = .ok (.getfield 7, 3) := by decide +kernel
theorem dX12_comes_4 : decode cX12_comes 4 = .ok (.sipush 172, 3) := by decide +kernel
theorem dX12_comes_7 : decode cX12_comes 7 = .ok (.iaload, 1) := by decide +kernel
theorem dX12_comes_8 : decode cX12_comes 8 = .ok (.istore 8, 2) := by decide +kernel
theorem dX12_comes_10 : decode cX12_comes 10 = .ok (.aload_n 0, 1) := by decide +kernel
theorem dX12_comes_11 : decode cX12_comes 11 = .ok (.getfield 7, 3) := by decide +kernel
theorem dX12_comes_14 : decode cX12_comes 14 = .ok (.iconst 0, 1) := by decide +kernel
theorem dX12_comes_15 : decode cX12_comes 15 = .ok (.iload 8, 2) := by decide +kernel
theorem dX12_comes_17 : decode cX12_comes 17 = .ok (.iadd, 1) := by decide +kernel
theorem dX12_comes_18 : decode cX12_comes 18 = .ok (.iload_n 1, 1) := by decide +kernel
theorem dX12_comes_19 : decode cX12_comes 19 = .ok (.iastore, 1) := by decide +kernel
theorem dX12_comes_20 : decode cX12_comes 20 = .ok (.aload_n 0, 1) := by decide +kernel
theorem dX12_comes_21 : decode cX12_comes 21 = .ok (.getfield 7, 3) := by decide +kernel
theorem dX12_comes_24 : decode cX12_comes 24 = .ok (.bipush 24, 2) := by decide +kernel
theorem dX12_comes_26 : decode cX12_comes 26 = .ok (.iload 8, 2) := by decide +kernel
theorem dX12_comes_28 : decode cX12_comes 28 = .ok (.iadd, 1) := by decide +kernel
theorem dX12_comes_29 : decode cX12_comes 29 = .ok (.iload_n 2, 1) := by decide +kernel
theorem dX12_comes_30 : decode cX12_comes 30 = .ok (.iastore, 1) := by decide +kernel
theorem dX12_comes_31 : decode cX12_comes 31 = .ok (.aload_n 0, 1) := by decide +kernel
theorem dX12_comes_32 : decode cX12_comes 32 = .ok (.getfield 7, 3) := by decide +kernel
theorem dX12_comes_35 : decode cX12_comes 35 = .ok (.bipush 48, 2) := by decide +kernel
theorem dX12_comes_37 : decode cX12_comes 37 = .ok (.iload 8, 2) := by decide +kernel
theorem dX12_comes_39 : decode cX12_comes 39 = .ok (.iadd, 1) := by decide +kernel
theorem dX12_comes_40 : decode cX12_comes 40 = .ok (.iload_n 3, 1) := by decide +kernel
theorem dX12_comes_41 : decode cX12_comes 41 = .ok (.iastore, 1) := by decide +kernel
theorem dX12_comes_42 : decode cX12_comes 42 = .ok (.aload_n 0, 1) := by decide +kernel
theorem dX12_comes_43 : decode cX12_comes 43 = .ok (.getfield 7, 3) := by decide +kernel
theorem dX12_comes_46 : decode cX12_comes 46 = .ok (.bipush 72, 2) := by decide +kernel
theorem dX12_comes_48 : decode cX12_comes 48 = .ok (.iload 8, 2) := by decide +kernel
theorem dX12_comes_50 : decode cX12_comes 50 = .ok (.iadd, 1) := by decide +kernel
theorem dX12_comes_51 : decode cX12_comes 51 = .ok (.iload 4, 2) := by decide +kernel
theorem dX12_comes_53 : decode cX12_comes 53 = .ok (.iastore, 1) := by decide +kernel
theorem dX12_comes_54 : decode cX12_comes 54 = .ok (.aload_n 0, 1) := by decide +kernel
theorem dX12_comes_55 : decode cX12_comes 55 = .ok (.getfield 7, 3) := by decide +kernel
theorem dX12_comes_58 : decode cX12_comes 58 = .ok (.bipush 96, 2) := by decide +kernel
theorem dX12_comes_60 : decode cX12_comes 60 = .ok (.iload 8, 2) := by decide +kernel
theorem dX12_comes_62 : decode cX12_comes 62 = .ok (.iadd, 1) := by decide +kernel
theorem dX12_comes_63 : decode cX12_comes 63 = .ok (.iload 5, 2) := by decide +kernel
theorem dX12_comes_65 : decode cX12_comes 65 = .ok (.iastore, 1) := by decide +kernel
theorem dX12_comes_66 : decode cX12_comes 66 = .ok (.aload_n 0, 1) := by decide +kernel
theorem dX12_comes_67 : decode cX12_comes 67 = .ok (.getfield 7, 3) := by decide +kernel
theorem dX12_comes_70 : decode cX12_comes 70 = .ok (.bipush 120, 2) := by decide +kernel
theorem dX12_comes_72 : decode cX12_comes 72 = .ok (.iload 8, 2) := by decide +kernel
theorem dX12_comes_74 : decode cX12_comes 74 = .ok (.iadd, 1) := by decide +kernel
theorem dX12_comes_75 : decode cX12_comes 75 = .ok (.iload 6, 2) := by decide +kernel
theorem dX12_comes_77 : decode cX12_comes 77 = .ok (.iastore, 1) := by decide +kernel
theorem dX12_comes_78 : decode cX12_comes 78 = .ok (.aload_n 0, 1) := by decide +kernel
theorem dX12_comes_79 : decode cX12_comes 79 = .ok (.getfield 7, 3) := by decide +kernel
theorem dX12_comes_82 : decode cX12_comes 82 = .ok (.sipush 144, 3) := by decide +kernel
theorem dX12_comes_85 : decode cX12_comes 85 = .ok (.iload 8, 2) := by decide +kernel
theorem dX12_comes_87 : decode cX12_comes 87 = .ok (.iadd, 1) := by decide +kernel
theorem dX12_comes_88 : decode cX12_comes 88 = .ok (.iload 7, 2) := by decide +kernel
theorem dX12_comes_90 : decode cX12_comes 90 = .ok (.iastore, 1) := by decide +kernel
theorem dX12_comes_91 : decode cX12_comes 91 = .ok (.aload_n 0, 1) := by decide +kernel
theorem dX12_comes_92 : decode cX12_comes 92 = .ok (.getfield 7, 3) := by decide +kernel
theorem dX12_comes_95 : decode cX12_comes 95 = .ok (.sipush 172, 3) := by decide +kernel
theorem dX12_comes_98 : decode cX12_comes 98 = .ok (.dup2, 1) := by decide +kernel
theorem dX12_comes_99 : decode cX12_comes 99 = .ok (.iaload, 1) := by decide +kernel
theorem dX12_comes_100 : decode cX12_comes 100 = .ok (.iconst 1, 1) := by decide +kernel
theorem dX12_comes_101 : decode cX12_comes 101 = .ok (.iadd, 1) := by decide +kernel
theorem dX12_comes_102 : decode cX12_comes 102 = .ok (.iastore, 1) := by decide +kernel
theorem dX12_comes_103 : decode cX12_comes 103 = .ok (.iload 8, 2) := by decide +kernel
theorem dX12_comes_105 : decode cX12_comes 105 = .ok (.ireturn, 1) := by decide +kernel
theorem dX12_action_0 : decode cX12_action 0 = .ok (.iload_n 1, 1) := by decide +kernel
theorem dX12_action_1 : decode cX12_action 1 = .ok (.invokestatic 91, 3) := by decide +kernel
theorem dX12_action_4 : decode cX12_action 4 = .ok (.ifCond .eq 28, 3) := by decide +kernel
theorem dX12_action_7 : decode cX12_action 7 = .ok (.iload_n 2, 1) := by decide +kernel
theorem dX12_action_8 : decode cX12_action 8 = .ok (.invokestatic 91, 3) := by decide +kernel
theorem dX12_action_11 : decode cX12_action 11 = .ok (.ifCond .eq 21, 3) := by decide +kernel
theorem dX12_action_14 : decode cX12_action 14 = .ok (.iload_n 3, 1) := by decide +kernel
theorem dX12_action_15 : decode cX12_action 15 = .ok (.invokestatic 91, 3) := by decide +kernel
theorem dX12_action_18 : decode cX12_action 18 = .ok (.ifCond .eq 14, 3) := by decide +kernel
theorem dX12_action_21 : decode cX12_action 21 = .ok (.iload 4, 2) := by decide +kernel
theorem dX12_action_23 : decode cX12_action 23 = .ok (.iconst 1, 1) := by decide +kernel
theorem dX12_action_24 : decode cX12_action 24 = .ok (.bipush 99, 2) := by decide +kernel
theorem dX12_action_26 : decode cX12_action 26 = .ok (.invokestatic 67, 3) := by decide +kernel
theorem dX12_action_29 : decode cX12_action 29 = .ok (.ifCond .ne 10, 3) := by decide +kernel
theorem dX12_action_32 : decode cX12_action 32 = .ok (.aload_n 0, 1) := by decide +kernel
theorem dX12_action_33 : decode cX12_action 33 = .ok (.bipush (-6), 2) := by decide +kernel
theorem dX12_action_35 : decode cX12_action 35 = .ok (.invokevirtual 75, 3) := by decide +kernel
theorem dX12_action_38 : decode cX12_action 38 = .ok (.ireturn, 1) := by decide +kernel
theorem dX12_action_39 : decode cX12_action 39 = .ok (.aload_n 0, 1) := by decide +kernel
theorem dX12_action_40 : decode cX12_action 40 = .ok (.getfield 7, 3) := by decide +kernel
theorem dX12_action_43 : decode cX12_action 43 = .ok (.sipush 172, 3) := by decide +kernel
theorem dX12_action_46 : decode cX12_action 46 = .ok (.iaload, 1) := by decide +kernel
theorem dX12_action_47 : decode cX12_action 47 = .ok (.bipush 24, 2) := by decide +kernel
theorem dX12_action_49 : decode cX12_action 49 = .ok (.if_icmp .ne 12, 3) := by decide +kernel
theorem dX12_action_52 : decode cX12_action 52 = .ok (.aload_n 0, 1) := by decide +kernel
theorem dX12_action_53 : decode cX12_action 53 = .ok (.bipush (-7), 2) := by decide +kernel
theorem dX12_action_55 : decode cX12_action 55 = .ok (.invokevirtual 75, 3) := by decide +kernel
theorem dX12_action_58 : decode cX12_action 58 = .ok (.goto 15, 3) := by decide +kernel
theorem dX12_action_61 : decode cX12_action 61 = .ok (.aload_n 0, 1) := by decide +kernel
theorem dX12_action_62 : decode cX12_action 62 = .ok (.iload_n 1, 1) := by decide +kernel
theorem dX12_action_63 : decode cX12_action 63 = .ok (.iload_n 2, 1) := by decide +kernel
theorem dX12_action_64 : decode cX12_action 64 = .ok (.iload_n 3, 1) := by decide +kernel
theorem dX12_action_65 : decode cX12_action 65 = .ok (.iload 4, 2) := by decide +kernel
theorem dX12_action_67 : decode cX12_action 67 = .ok (.iconst 0, 1) := by decide +kernel
theorem dX12_action_68 : decode cX12_action 68 = .ok (.iconst (-1), 1) := by decide +kernel
theorem dX12_action_69 : decode cX12_action 69 = .ok (.iconst (-1), 1) := by decide +kernel
theorem dX12_action_70 : decode cX12_action 70 = .ok (.invokevirtual 94, 3) := by decide +kernel
theorem dX12_action_73 : decode cX12_action 73 = .ok (.ireturn, 1) := by decide +kernel
theorem dX12_macro_0 : decode cX12_macro 0 = .ok (.aload_n 0, 1) := by decide +kernel
theorem dX12_macro_1 : decode cX12_macro 1 = .ok (.iload_n 1, 1) := by decide +kernel
theorem dX12_macro_2 : decode cX12_macro 2 = .ok (.invokevirtual 85, 3) := by decide +kernel
theorem dX12_macro_5 : decode cX12_macro 5 = .ok (.ifCond .eq 11, 3) := by decide +kernel
theorem dX12_macro_8 : decode cX12_macro 8 = .ok (.aload_n 0, 1) := by decide +kernel
theorem dX12_macro_9 : decode cX12_macro 9 = .ok (.iload_n 2, 1) := by decide +kernel
theorem dX12_macro_10 : decode cX12_macro 10 = .ok (.invokevirtual 85, 3) := by decide +kernel
theorem dX12_macro_13 : decode cX12_macro 13 = .ok (.ifCond .ne 9, 3) := by decide +kernel
theorem dX12_macro_16 : decode cX12_macro 16 = .ok (.aload_n 0, 1) := by decide +kernel
theorem dX12_macro_17 : decode cX12_macro 17 = .ok (.iconst (-1), 1) := by decide +kernel
theorem dX12_macro_18 : decode cX12_macro 18 = .ok (.invokevirtual 75, 3) := by decide +kernel
theorem dX12_macro_21 : decode cX12_macro 21 = .ok (.ireturn, 1) := by decide +kernel
theorem dX12_macro_22 : decode cX12_macro 22 = .ok (.aload_n 0, 1) := by decide +kernel
theorem dX12_macro_23 : decode cX12_macro 23 = .ok (.getfield 7, 3) := by decide +kernel
theorem dX12_macro_26 : decode cX12_macro 26 = .ok (.bipush 48, 2) := by decide +kernel
theorem dX12_macro_28 : decode cX12_macro 28 = .ok (.iload_n 1, 1) := by decide +kernel
theorem dX12_macro_29 : decode cX12_macro 29 = .ok (.iadd, 1) := by decide +kernel
theorem dX12_macro_30 : decode cX12_macro 30 = .ok (.iaload, 1) := by decide +kernel
theorem dX12_macro_31 : decode cX12_macro 31 = .ok (.aload_n 0, 1) := by decide +kernel
theorem dX12_macro_32 : decode cX12_macro 32 = .ok (.getfield 7, 3) := by decide +kernel
theorem dX12_macro_35 : decode cX12_macro 35 = .ok (.bipush 24, 2) := by decide +kernel
theorem dX12_macro_37 : decode cX12_macro 37 = .ok (.iload_n 1, 1) := by decide +kernel
theorem dX12_macro_38 : decode cX12_macro 38 = .ok (.iadd, 1) := by decide +kernel
theorem dX12_macro_39 : decode cX12_macro 39 = .ok (.iaload, 1) := by decide +kernel
theorem dX12_macro_40 : decode cX12_macro 40 = .ok (.iconst (-1), 1) := by decide +kernel
theorem dX12_macro_41 : decode cX12_macro 41 = .ok (.ixor, 1) := by decide +kernel
theorem dX12_macro_42 : decode cX12_macro 42 = .ok (.iand, 1) := by decide +kernel
theorem dX12_macro_43 : decode cX12_macro 43 = .ok (.aload_n 0, 1) := by decide +kernel
theorem dX12_macro_44 : decode cX12_macro 44 = .ok (.getfield 7, 3) := by decide +kernel
theorem dX12_macro_47 : decode cX12_macro 47 = .ok (.iconst 0, 1) := by decide +kernel
theorem dX12_macro_48 : decode cX12_macro 48 = .ok (.iload_n 2, 1) := by decide +kernel
theorem dX12_macro_49 : decode cX12_macro 49 = .ok (.iadd, 1) := by decide +kernel
theorem dX12_macro_50 : decode cX12_macro 50 = .ok (.iaload, 1) := by decide +kernel
theorem dX12_macro_51 : decode cX12_macro 51 = .ok (.iand, 1) := by decide +kernel
theorem dX12_macro_52 : decode cX12_macro 52 = .ok (.istore_n 3, 1) := by decide +kernel
theorem dX12_macro_53 : decode cX12_macro 53 = .ok (.aload_n 0, 1) := by decide +kernel
theorem dX12_macro_54 : decode cX12_macro 54 = .ok (.getfield 7, 3) := by decide +kernel
theorem dX12_macro_57 : decode cX12_macro 57 = .ok (.bipush 72, 2) := by decide +kernel
theorem dX12_macro_59 : decode cX12_macro 59 = .ok (.iload_n 1, 1) := by decide +kernel
theorem dX12_macro_60 : decode cX12_macro 60 = .ok (.iadd, 1) := by decide +kernel
theorem dX12_macro_61 : decode cX12_macro 61 = .ok (.iaload, 1) := by decide +kernel
theorem dX12_macro_62 : decode cX12_macro 62 = .ok (.aload_n 0, 1) := by decide +kernel
theorem dX12_macro_63 : decode cX12_macro 63 = .ok (.getfield 7, 3) := by decide +kernel
theorem dX12_macro_66 : decode cX12_macro 66 = .ok (.bipush 72, 2) := by decide +kernel
theorem dX12_macro_68 : decode cX12_macro 68 = .ok (.iload_n 2, 1) := by decide +kernel
theorem dX12_macro_69 : decode cX12_macro 69 = .ok (.iadd, 1) := by decide +kernel
theorem dX12_macro_70 : decode cX12_macro 70 = .ok (.iaload, 1) := by decide +kernel
theorem dX12_macro_71 : decode cX12_macro 71 = .ok (.iadd, 1) := by decide +kernel
theorem dX12_macro_72 : decode cX12_macro 72 = .ok (.istore 4, 2) := by decide +kernel
theorem dX12_macro_74 : decode cX12_macro 74 = .ok (.iload_n 3, 1) := by decide +kernel
theorem dX12_macro_75 : decode cX12_macro 75 = .ok (.ifCond .ne 10, 3) := by decide +kernel
theorem dX12_macro_78 : decode cX12_macro 78 = .ok (.iload 4, 2) := by decide +kernel
theorem dX12_macro_80 : decode cX12_macro 80 = .ok (.bipush 99, 2) := by decide +kernel
theorem dX12_macro_82 : decode cX12_macro 82 = .ok (.if_icmp .le 10, 3) := by decide +kernel
theorem dX12_macro_85 : decode cX12_macro 85 = .ok (.aload_n 0, 1) := by decide +kernel
theorem dX12_macro_86 : decode cX12_macro 86 = .ok (.bipush (-6), 2) := by decide +kernel
theorem dX12_macro_88 : decode cX12_macro 88 = .ok (.invokevirtual 75, 3) := by decide +kernel
theorem dX12_macro_91 : decode cX12_macro 91 = .ok (.ireturn, 1) := by decide +kernel
theorem dX12_macro_92 : decode cX12_macro 92 = .ok (.aload_n 0, 1) := by decide +kernel
theorem dX12_macro_93 : decode cX12_macro 93 = .ok (.getfield 7, 3) := by decide +kernel
theorem dX12_macro_96 : decode cX12_macro 96 = .ok (.sipush 172, 3) := by decide +kernel
theorem dX12_macro_99 : decode cX12_macro 99 = .ok (.iaload, 1) := by decide +kernel
theorem dX12_macro_100 : decode cX12_macro 100 = .ok (.bipush 24, 2) := by decide +kernel
theorem dX12_macro_102 : decode cX12_macro 102 = .ok (.if_icmp .ne 10, 3) := by decide +kernel
theorem dX12_macro_105 : decode cX12_macro 105 = .ok (.aload_n 0, 1) := by decide +kernel
theorem dX12_macro_106 : decode cX12_macro 106 = .ok (.bipush (-7), 2) := by decide +kernel
theorem dX12_macro_108 : decode cX12_macro 108 = .ok (.invokevirtual 75, 3) := by decide +kernel
theorem dX12_macro_111 : decode cX12_macro 111 = .ok (.ireturn, 1) := by decide +kernel
theorem dX12_macro_112 : decode cX12_macro 112 = .ok (.aload_n 0, 1) := by decide +kernel
theorem dX12_macro_113 : decode cX12_macro 113 = .ok (.getfield 7, 3) := by decide +kernel
theorem dX12_macro_116 : decode cX12_macro 116 = .ok (.iconst 0, 1) := by decide +kernel
theorem dX12_macro_117 : decode cX12_macro 117 = .ok (.iload_n 1, 1) := by decide +kernel
theorem dX12_macro_118 : decode cX12_macro 118 = .ok (.iadd, 1) := by decide +kernel
theorem dX12_macro_119 : decode cX12_macro 119 = .ok (.iaload, 1) := by decide +kernel
theorem dX12_macro_120 : decode cX12_macro 120 = .ok (.aload_n 0, 1) := by decide +kernel
theorem dX12_macro_121 : decode cX12_macro 121 = .ok (.getfield 7, 3) := by decide +kernel
theorem dX12_macro_124 : decode cX12_macro 124 = .ok (.iconst 0, 1) := by decide +kernel
theorem dX12_macro_125 : decode cX12_macro 125 = .ok (.iload_n 2, 1) := by decide +kernel
theorem dX12_macro_126 : decode cX12_macro 126 = .ok (.iadd, 1) := by decide +kernel
theorem dX12_macro_127 : decode cX12_macro 127 = .ok (.iaload, 1) := by decide +kernel
theorem dX12_macro_128 : decode cX12_macro 128 = .ok (.aload_n 0, 1) := by decide +kernel
theorem dX12_macro_129 : decode cX12_macro 129 = .ok (.getfield 7, 3) := by decide +kernel
theorem dX12_macro_132 : decode cX12_macro 132 = .ok (.bipush 24, 2) := by decide +kernel
theorem dX12_macro_134 : decode cX12_macro 134 = .ok (.iload_n 1, 1) := by decide +kernel
theorem dX12_macro_135 : decode cX12_macro 135 = .ok (.iadd, 1) := by decide +kernel
theorem dX12_macro_136 : decode cX12_macro 136 = .ok (.iaload, 1) := by decide +kernel
theorem dX12_macro_137 : decode cX12_macro 137 = .ok (.iconst (-1), 1) := by decide +kernel
theorem dX12_macro_138 : decode cX12_macro 138 = .ok (.ixor, 1) := by decide +kernel
theorem dX12_macro_139 : decode cX12_macro 139 = .ok (.iand, 1) := by decide +kernel
theorem dX12_macro_140 : decode cX12_macro 140 = .ok (.ior, 1) := by decide +kernel
theorem dX12_macro_141 : decode cX12_macro 141 = .ok (.istore 5, 2) := by decide +kernel
theorem dX12_macro_143 : decode cX12_macro 143 = .ok (.aload_n 0, 1) := by decide +kernel
theorem dX12_macro_144 : decode cX12_macro 144 = .ok (.getfield 7, 3) := by decide +kernel
theorem dX12_macro_147 : decode cX12_macro 147 = .ok (.bipush 24, 2) := by decide +kernel
theorem dX12_macro_149 : decode cX12_macro 149 = .ok (.iload_n 1, 1) := by decide +kernel
theorem dX12_macro_150 : decode cX12_macro 150 = .ok (.iadd, 1) := by decide +kernel
theorem dX12_macro_151 : decode cX12_macro 151 = .ok (.iaload, 1) := by decide +kernel
theorem dX12_macro_152 : decode cX12_macro 152 = .ok (.aload_n 0, 1) := by decide +kernel
theorem dX12_macro_153 : decode cX12_macro 153 = .ok (.getfield 7, 3) := by decide +kernel
theorem dX12_macro_156 : decode cX12_macro 156 = .ok (.bipush 48, 2) := by decide +kernel
theorem dX12_macro_158 : decode cX12_macro 158 = .ok (.iload_n 2, 1) := by decide +kernel
theorem dX12_macro_159 : decode cX12_macro 159 = .ok (.iadd, 1) := by decide +kernel
theorem dX12_macro_160 : decode cX12_macro 160 = .ok (.iaload, 1) := by decide +kernel
theorem dX12_macro_161 : decode cX12_macro 161 = .ok (.iconst (-1), 1) := by decide +kernel
theorem dX12_macro_162 : decode cX12_macro 162 = .ok (.ixor, 1) := by decide +kernel
theorem dX12_macro_163 : decode cX12_macro 163 = .ok (.iand, 1) := by decide +kernel
theorem dX12_macro_164 : decode cX12_macro 164 = .ok (.aload_n 0, 1) := by decide +kernel
theorem dX12_macro_165 : decode cX12_macro 165 = .ok (.getfield 7, 3) := by decide +kernel
theorem dX12_macro_168 : decode cX12_macro 168 = .ok (.bipush 24, 2) := by decide +kernel
theorem dX12_macro_170 : decode cX12_macro 170 = .ok (.iload_n 2, 1) := by decide +kernel
theorem dX12_macro_171 : decode cX12_macro 171 = .ok (.iadd, 1) := by decide +kernel
theorem dX12_macro_172 : decode cX12_macro 172 = .ok (.iaload, 1) := by decide +kernel
theorem dX12_macro_173 : decode cX12_macro 173 = .ok (.ior, 1) := by decide +kernel
theorem dX12_macro_174 : decode cX12_macro 174 = .ok (.istore 6, 2) := by decide +kernel
theorem dX12_macro_176 : decode cX12_macro 176 = .ok (.aload_n 0, 1) := by decide +kernel
theorem dX12_macro_177 : decode cX12_macro 177 = .ok (.getfield 7, 3) := by decide +kernel
theorem dX12_macro_180 : decode cX12_macro 180 = .ok (.bipush 48, 2) := by decide +kernel
theorem dX12_macro_182 : decode cX12_macro 182 = .ok (.iload_n 1, 1) := by decide +kernel
theorem dX12_macro_183 : decode cX12_macro 183 = .ok (.iadd, 1) := by decide +kernel
theorem dX12_macro_184 : decode cX12_macro 184 = .ok (.iaload, 1) := by decide +kernel
theorem dX12_macro_185 : decode cX12_macro 185 = .ok (.aload_n 0, 1) := by decide +kernel
theorem dX12_macro_186 : decode cX12_macro 186 = .ok (.getfield 7, 3) := by decide +kernel
theorem dX12_macro_189 : decode cX12_macro 189 = .ok (.bipush 24, 2) := by decide +kernel
theorem dX12_macro_191 : decode cX12_macro 191 = .ok (.iload_n 2, 1) := by decide +kernel
theorem dX12_macro_192 : decode cX12_macro 192 = .ok (.iadd, 1) := by decide +kernel
theorem dX12_macro_193 : decode cX12_macro 193 = .ok (.iaload, 1) := by decide +kernel
theorem dX12_macro_194 : decode cX12_macro 194 = .ok (.iconst (-1), 1) := by decide +kernel
theorem dX12_macro_195 : decode cX12_macro 195 = .ok (.ixor, 1) := by decide +kernel
theorem dX12_macro_196 : decode cX12_macro 196 = .ok (.iand, 1) := by decide +kernel
theorem dX12_macro_197 : decode cX12_macro 197 = .ok (.aload_n 0, 1) := by decide +kernel
theorem dX12_macro_198 : decode cX12_macro 198 = .ok (.getfield 7, 3) := by decide +kernel
theorem dX12_macro_201 : decode cX12_macro 201 = .ok (.bipush 48, 2) := by decide +kernel
theorem dX12_macro_203 : decode cX12_macro 203 = .ok (.iload_n 2, 1) := by decide +kernel
theorem dX12_macro_204 : decode cX12_macro 204 = .ok (.iadd, 1) := by decide +kernel
theorem dX12_macro_205 : decode cX12_macro 205 = .ok (.iaload, 1) := by decide +kernel
theorem dX12_macro_206 : decode cX12_macro 206 = .ok (.ior, 1) := by decide +kernel
theorem dX12_macro_207 : decode cX12_macro 207 = .ok (.istore 7, 2) := by decide +kernel
theorem dX12_macro_209 : decode cX12_macro 209 = .ok (.aload_n 0, 1) := by decide +kernel
theorem dX12_macro_210 : decode cX12_macro 210 = .ok (.iload 5, 2) := by decide +kernel
theorem dX12_macro_212 : decode cX12_macro 212 = .ok (.iload 6, 2) := by decide +kernel
theorem dX12_macro_214 : decode cX12_macro 214 = .ok (.iload 7, 2) := by decide +kernel
theorem dX12_macro_216 : decode cX12_macro 216 = .ok (.iload 4, 2) := by decide +kernel
theorem dX12_macro_218 : decode cX12_macro 218 = .ok (.aload_n 0, 1) := by decide +kernel
theorem dX12_macro_219 : decode cX12_macro 219 = .ok (.getfield 7, 3) := by decide +kernel
theorem dX12_macro_222 : decode cX12_macro 222 = .ok (.bipush 96, 2) := by decide +kernel
theorem dX12_macro_224 : decode cX12_macro 224 = .ok (.iload_n 1, 1) := by decide +kernel
theorem dX12_macro_225 : decode cX12_macro 225 = .ok (.iadd, 1) := by decide +kernel
theorem dX12_macro_226 : decode cX12_macro 226 = .ok (.iaload, 1) := by decide +kernel
theorem dX12_macro_227 : decode cX12_macro 227 = .ok (.ifCond .gt 15, 3) := by decide +kernel
theorem dX12_macro_230 : decode cX12_macro 230 = .ok (.aload_n 0, 1) := by decide +kernel
theorem dX12_macro_231 : decode cX12_macro 231 = .ok (.getfield 7, 3) := by decide +kernel
theorem dX12_macro_234 : decode cX12_macro 234 = .ok (.bipush 96, 2) := by decide +kernel
theorem dX12_macro_236 : decode cX12_macro 236 = .ok (.iload_n 2, 1) := by decide +kernel
theorem dX12_macro_237 : decode cX12_macro 237 = .ok (.iadd, 1) := by decide +kernel
theorem dX12_macro_238 : decode cX12_macro 238 = .ok (.iaload, 1) := by decide +kernel
theorem dX12_macro_239 : decode cX12_macro 239 = .ok (.ifCond .le 7, 3) := by decide +kernel
theorem dX12_macro_242 : decode cX12_macro 242 = .ok (.iconst 2, 1) := by decide +kernel
theorem dX12_macro_243 : decode cX12_macro 243 = .ok (.goto 4, 3) := by decide +kernel
theorem dX12_macro_246 : decode cX12_macro 246 = .ok (.iconst 1, 1) := by decide +kernel
theorem dX12_macro_247 : decode cX12_macro 247 = .ok (.iload_n 1, 1) := by decide +kernel
theorem dX12_macro_248 : decode cX12_macro 248 = .ok (.iload_n 2, 1) := by decide +kernel
theorem dX12_macro_249 : decode cX12_macro 249 = .ok (.invokevirtual 94, 3) := by decide +kernel
theorem dX12_macro_252 : decode cX12_macro 252 = .ok (.ireturn, 1) := by decide +kernel
theorem dX12_actionOf_0 : decode cX12_actionOf 0 = .ok (.aload_n 0, 1) := by decide +kernel
theorem dX12_actionOf_1 : decode cX12_actionOf 1 = .ok (.iload_n 1, 1) := by decide +kernel
theorem dX12_actionOf_2 : decode cX12_actionOf 2 = .ok (.invokevirtual 85, 3) := by decide +kernel
theorem dX12_actionOf_5 : decode cX12_actionOf 5 = .ok (.ifCond .eq 13, 3) := by decide +kernel
theorem dX12_actionOf_8 : decode cX12_actionOf 8 = .ok (.iload_n 2, 1) := by decide +kernel
theorem dX12_actionOf_9 : decode cX12_actionOf 9 = .ok (.iconst 0, 1) := by decide +kernel
theorem dX12_actionOf_10 : decode cX12_actionOf 10 = .ok (.bipush 6, 2) := by decide +kernel
theorem dX12_actionOf_12 : decode cX12_actionOf 12 = .ok (.invokestatic 67, 3) := by decide +kernel
theorem dX12_actionOf_15 : decode cX12_actionOf 15 = .ok (.ifCond .ne 10, 3) := by decide +kernel
theorem dX12_actionOf_18 : decode cX12_actionOf 18 = .ok (.aload_n 0, 1) := by decide +kernel
theorem dX12_actionOf_19 : decode cX12_actionOf 19 = .ok (.bipush (-5), 2) := by decide +kernel
theorem dX12_actionOf_21 : decode cX12_actionOf 21 = .ok (.invokevirtual 75, 3) := by decide +kernel
theorem dX12_actionOf_24 : decode cX12_actionOf 24 = .ok (.ireturn, 1) := by decide +kernel
theorem dX12_actionOf_25 : decode cX12_actionOf 25 = .ok (.iload_n 2, 1) := by decide +kernel
theorem dX12_actionOf_26 : decode cX12_actionOf 26 = .ok (.tableswitch 97 0 5 #[38, 48, 57, 67, 77, 87], 38) := by decide +kernel
theorem dX12_actionOf_64 : decode cX12_actionOf 64 = .ok (.aload_n 0, 1) := by decide +kernel
theorem dX12_actionOf_65 : decode cX12_actionOf 65 = .ok (.getfield 7, 3) := by decide +kernel
theorem dX12_actionOf_68 : decode cX12_actionOf 68 = .ok (.bipush 96, 2) := by decide +kernel
theorem dX12_actionOf_70 : decode cX12_actionOf 70 = .ok (.iload_n 1, 1) := by decide +kernel
theorem dX12_actionOf_71 : decode cX12_actionOf 71 = .ok (.iadd, 1) := by decide +kernel
theorem dX12_actionOf_72 : decode cX12_actionOf 72 = .ok (.iaload, 1) := by decide +kernel
theorem dX12_actionOf_73 : decode cX12_actionOf 73 = .ok (.ireturn, 1) := by decide +kernel
theorem dX12_actionOf_74 : decode cX12_actionOf 74 = .ok (.aload_n 0, 1) := by decide +kernel
theorem dX12_actionOf_75 : decode cX12_actionOf 75 = .ok (.getfield 7, 3) := by decide +kernel
theorem dX12_actionOf_78 : decode cX12_actionOf 78 = .ok (.iconst 0, 1) := by decide +kernel
theorem dX12_actionOf_79 : decode cX12_actionOf 79 = .ok (.iload_n 1, 1) := by decide +kernel
theorem dX12_actionOf_80 : decode cX12_actionOf 80 = .ok (.iadd, 1) := by decide +kernel
theorem dX12_actionOf_81 : decode cX12_actionOf 81 = .ok (.iaload, 1) := by decide +kernel
theorem dX12_actionOf_82 : decode cX12_actionOf 82 = .ok (.ireturn, 1) := by decide +kernel
theorem dX12_actionOf_83 : decode cX12_actionOf 83 = .ok (.aload_n 0, 1) := by decide +kernel
theorem dX12_actionOf_84 : decode cX12_actionOf 84 = .ok (.getfield 7, 3) := by decide +kernel
theorem dX12_actionOf_87 : decode cX12_actionOf 87 = .ok (.bipush 24, 2) := by decide +kernel
theorem dX12_actionOf_89 : decode cX12_actionOf 89 = .ok (.iload_n 1, 1) := by decide +kernel
theorem dX12_actionOf_90 : decode cX12_actionOf 90 = .ok (.iadd, 1) := by decide +kernel
theorem dX12_actionOf_91 : decode cX12_actionOf 91 = .ok (.iaload, 1) := by decide +kernel
theorem dX12_actionOf_92 : decode cX12_actionOf 92 = .ok (.ireturn, 1) := by decide +kernel
theorem dX12_actionOf_93 : decode cX12_actionOf 93 = .ok (.aload_n 0, 1) := by decide +kernel
theorem dX12_actionOf_94 : decode cX12_actionOf 94 = .ok (.getfield 7, 3) := by decide +kernel
theorem dX12_actionOf_97 : decode cX12_actionOf 97 = .ok (.bipush 48, 2) := by decide +kernel
theorem dX12_actionOf_99 : decode cX12_actionOf 99 = .ok (.iload_n 1, 1) := by decide +kernel
theorem dX12_actionOf_100 : decode cX12_actionOf 100 = .ok (.iadd, 1) := by decide +kernel
theorem dX12_actionOf_101 : decode cX12_actionOf 101 = .ok (.iaload, 1) := by decide +kernel
theorem dX12_actionOf_102 : decode cX12_actionOf 102 = .ok (.ireturn, 1) := by decide +kernel
theorem dX12_actionOf_103 : decode cX12_actionOf 103 = .ok (.aload_n 0, 1) := by decide +kernel
theorem dX12_actionOf_104 : decode cX12_actionOf 104 = .ok (.getfield 7, 3) := by decide +kernel
theorem dX12_actionOf_107 : decode cX12_actionOf 107 = .ok (.bipush 72, 2) := by decide +kernel
theorem dX12_actionOf_109 : decode cX12_actionOf 109 = .ok (.iload_n 1, 1) := by decide +kernel
theorem dX12_actionOf_110 : decode cX12_actionOf 110 = .ok (.iadd, 1) := by decide +kernel
theorem dX12_actionOf_111 : decode cX12_actionOf 111 = .ok (.iaload, 1) := by decide +kernel
theorem dX12_actionOf_112 : decode cX12_actionOf 112 = .ok (.ireturn, 1) := by decide +kernel
theorem dX12_actionOf_113 : decode cX12_actionOf 113 = .ok (.aload_n 0, 1) := by decide +kernel
theorem dX12_actionOf_114 : decode cX12_actionOf 114 = .ok (.getfield 7, 3) := by decide +kernel
theorem dX12_actionOf_117 : decode cX12_actionOf 117 = .ok (.bipush 120, 2) := by decide +kernel
theorem dX12_actionOf_119 : decode cX12_actionOf 119 = .ok (.iload_n 1, 1) := by decide +kernel
theorem dX12_actionOf_120 : decode cX12_actionOf 120 = .ok (.iadd, 1) := by decide +kernel
theorem dX12_actionOf_121 : decode cX12_actionOf 121 = .ok (.iaload, 1) := by decide +kernel
theorem dX12_actionOf_122 : decode cX12_actionOf 122 = .ok (.ireturn, 1) := by decide +kernel
theorem dX12_actionOf_123 : decode cX12_actionOf 123 = .ok (.aload_n 0, 1) := by decide +kernel
theorem dX12_actionOf_124 : decode cX12_actionOf 124 = .ok (.getfield 7, 3) := by decide +kernel
theorem dX12_actionOf_127 : decode cX12_actionOf 127 = .ok (.sipush 144, 3) := by decide +kernel
theorem dX12_actionOf_130 : decode cX12_actionOf 130 = .ok (.iload_n 1, 1) := by decide +kernel
theorem dX12_actionOf_131 : decode cX12_actionOf 131 = .ok (.iadd, 1) := by decide +kernel
theorem dX12_actionOf_132 : decode cX12_actionOf 132 = .ok (.iaload, 1) := by decide +kernel
theorem dX12_actionOf_133 : decode cX12_actionOf 133 = .ok (.ireturn, 1) := by decide +kernel
theorem dX12_here_0 : decode cX12_here 0 = .ok (.aload_n 0, 1) := by decide +kernel
theorem dX12_here_1 : decode cX12_here 1 = .ok (.getfield 98, 3) := by decide +kernel
theorem dX12_here_4 : decode cX12_here 4 = .ok (.aload_n 0, 1) := by decide +kernel
theorem dX12_here_5 : decode cX12_here 5 = .ok (.getfield 22, 3) := by decide +kernel
theorem dX12_here_8 : decode cX12_here 8 = .ok (.aload_n 0, 1) := by decide +kernel
theorem dX12_here_9 : decode cX12_here 9 = .ok (.getfield 101, 3) := by decide +kernel
theorem dX12_here_12 : decode cX12_here 12 = .ok (.iaload, 1) := by decide +kernel
theorem dX12_here_13 : decode cX12_here 13 = .ok (.if_icmp .ge 25, 3) := by decide +kernel
theorem dX12_here_16 : decode cX12_here 16 = .ok (.aload_n 0, 1) := by decide +kernel
theorem dX12_here_17 : decode cX12_here 17 = .ok (.getfield 25, 3) := by decide +kernel
theorem dX12_here_20 : decode cX12_here 20 = .ok (.sipush 160, 3) := by decide +kernel
theorem dX12_here_23 : decode cX12_here 23 = .ok (.aload_n 0, 1) := by decide +kernel
theorem dX12_here_24 : decode cX12_here 24 = .ok (.getfield 101, 3) := by decide +kernel
theorem dX12_here_27 : decode cX12_here 27 = .ok (.imul, 1) := by decide +kernel
theorem dX12_here_28 : decode cX12_here 28 = .ok (.aload_n 0, 1) := by decide +kernel
theorem dX12_here_29 : decode cX12_here 29 = .ok (.getfield 98, 3) := by decide +kernel
theorem dX12_here_32 : decode cX12_here 32 = .ok (.iadd, 1) := by decide +kernel
theorem dX12_here_33 : decode cX12_here 33 = .ok (.laload, 1) := by decide +kernel
theorem dX12_here_34 : decode cX12_here 34 = .ok (.l2i, 1) := by decide +kernel
theorem dX12_here_35 : decode cX12_here 35 = .ok (.goto 4, 3) := by decide +kernel
theorem dX12_here_38 : decode cX12_here 38 = .ok (.iconst 0, 1) := by decide +kernel
theorem dX12_here_39 : decode cX12_here 39 = .ok (.ireturn, 1) := by decide +kernel
theorem dX12_fails_0 : decode cX12_fails 0 = .ok (.aload_n 0, 1) := by decide +kernel
theorem dX12_fails_1 : decode cX12_fails 1 = .ok (.aload_n 0, 1) := by decide +kernel
theorem dX12_fails_2 : decode cX12_fails 2 = .ok (.getfield 104, 3) := by decide +kernel
theorem dX12_fails_5 : decode cX12_fails 5 = .ok (.ifCond .eq 10, 3) := by decide +kernel
theorem dX12_fails_8 : decode cX12_fails 8 = .ok (.aload_n 0, 1) := by decide +kernel
theorem dX12_fails_9 : decode cX12_fails 9 = .ok (.getfield 32, 3) := by decide +kernel
theorem dX12_fails_12 : decode cX12_fails 12 = .ok (.goto 4, 3) := by decide +kernel
theorem dX12_fails_15 : decode cX12_fails 15 = .ok (.iload_n 1, 1) := by decide +kernel
theorem dX12_fails_16 : decode cX12_fails 16 = .ok (.putfield 32, 3) := by decide +kernel
theorem dX12_fails_19 : decode cX12_fails 19 = .ok (.aload_n 0, 1) := by decide +kernel
theorem dX12_fails_20 : decode cX12_fails 20 = .ok (.iconst 1, 1) := by decide +kernel
theorem dX12_fails_21 : decode cX12_fails 21 = .ok (.putfield 104, 3) := by decide +kernel
theorem dX12_fails_24 : decode cX12_fails 24 = .ok (.return_, 1) := by decide +kernel
theorem dX12_must_0 : decode cX12_must 0 = .ok (.aload_n 0, 1) := by decide +kernel
theorem dX12_must_1 : decode cX12_must 1 = .ok (.getfield 104, 3) := by decide +kernel
theorem dX12_must_4 : decode cX12_must 4 = .ok (.ifCond .eq 4, 3) := by decide +kernel
theorem dX12_must_7 : decode cX12_must 7 = .ok (.return_, 1) := by decide +kernel
theorem dX12_must_8 : decode cX12_must 8 = .ok (.aload_n 0, 1) := by decide +kernel
theorem dX12_must_9 : decode cX12_must 9 = .ok (.getfield 98, 3) := by decide +kernel
theorem dX12_must_12 : decode cX12_must 12 = .ok (.aload_n 0, 1) := by decide +kernel
theorem dX12_must_13 : decode cX12_must 13 = .ok (.getfield 22, 3) := by decide +kernel
theorem dX12_must_16 : decode cX12_must 16 = .ok (.aload_n 0, 1) := by decide +kernel
theorem dX12_must_17 : decode cX12_must 17 = .ok (.getfield 101, 3) := by decide +kernel
theorem dX12_must_20 : decode cX12_must 20 = .ok (.iaload, 1) := by decide +kernel
theorem dX12_must_21 : decode cX12_must 21 = .ok (.if_icmp .ge 24, 3) := by decide +kernel
theorem dX12_must_24 : decode cX12_must 24 = .ok (.aload_n 0, 1) := by decide +kernel
theorem dX12_must_25 : decode cX12_must 25 = .ok (.invokevirtual 108, 3) := by decide +kernel
theorem dX12_must_28 : decode cX12_must 28 = .ok (.iload_n 1, 1) := by decide +kernel
theorem dX12_must_29 : decode cX12_must 29 = .ok (.if_icmp .ne 16, 3) := by decide +kernel
theorem dX12_must_32 : decode cX12_must 32 = .ok (.aload_n 0, 1) := by decide +kernel
theorem dX12_must_33 : decode cX12_must 33 = .ok (.dup, 1) := by decide +kernel
theorem dX12_must_34 : decode cX12_must 34 = .ok (.getfield 98, 3) := by decide +kernel
theorem dX12_must_37 : decode cX12_must 37 = .ok (.iconst 1, 1) := by decide +kernel
theorem dX12_must_38 : decode cX12_must 38 = .ok (.iadd, 1) := by decide +kernel
theorem dX12_must_39 : decode cX12_must 39 = .ok (.putfield 98, 3) := by decide +kernel
theorem dX12_must_42 : decode cX12_must 42 = .ok (.goto 11, 3) := by decide +kernel
theorem dX12_must_45 : decode cX12_must 45 = .ok (.aload_n 0, 1) := by decide +kernel
theorem dX12_must_46 : decode cX12_must 46 = .ok (.aload_n 0, 1) := by decide +kernel
theorem dX12_must_47 : decode cX12_must 47 = .ok (.getfield 98, 3) := by decide +kernel
theorem dX12_must_50 : decode cX12_must 50 = .ok (.invokevirtual 112, 3) := by decide +kernel
theorem dX12_must_53 : decode cX12_must 53 = .ok (.return_, 1) := by decide +kernel
theorem dX12_isDigit_0 : decode cX12_isDigit 0 = .ok (.aload_n 0, 1) := by decide +kernel
theorem dX12_isDigit_1 : decode cX12_isDigit 1 = .ok (.getfield 98, 3) := by decide +kernel
theorem dX12_isDigit_4 : decode cX12_isDigit 4 = .ok (.aload_n 0, 1) := by decide +kernel
theorem dX12_isDigit_5 : decode cX12_isDigit 5 = .ok (.getfield 22, 3) := by decide +kernel
theorem dX12_isDigit_8 : decode cX12_isDigit 8 = .ok (.aload_n 0, 1) := by decide +kernel
theorem dX12_isDigit_9 : decode cX12_isDigit 9 = .ok (.getfield 101, 3) := by decide +kernel
theorem dX12_isDigit_12 : decode cX12_isDigit 12 = .ok (.iaload, 1) := by decide +kernel
theorem dX12_isDigit_13 : decode cX12_isDigit 13 = .ok (.if_icmp .ge 21, 3) := by decide +kernel
theorem dX12_isDigit_16 : decode cX12_isDigit 16 = .ok (.aload_n 0, 1) := by decide +kernel
theorem dX12_isDigit_17 : decode cX12_isDigit 17 = .ok (.invokevirtual 108, 3) := by decide +kernel
theorem dX12_isDigit_20 : decode cX12_isDigit 20 = .ok (.bipush 48, 2) := by decide +kernel
theorem dX12_isDigit_22 : decode cX12_isDigit 22 = .ok (.bipush 57, 2) := by decide +kernel
theorem dX12_isDigit_24 : decode cX12_isDigit 24 = .ok (.invokestatic 67, 3) := by decide +kernel
theorem dX12_isDigit_27 : decode cX12_isDigit 27 = .ok (.ifCond .eq 7, 3) := by decide +kernel
theorem dX12_isDigit_30 : decode cX12_isDigit 30 = .ok (.iconst 1, 1) := by decide +kernel
theorem dX12_isDigit_31 : decode cX12_isDigit 31 = .ok (.goto 4, 3) := by decide +kernel
theorem dX12_isDigit_34 : decode cX12_isDigit 34 = .ok (.iconst 0, 1) := by decide +kernel
theorem dX12_isDigit_35 : decode cX12_isDigit 35 = .ok (.ireturn, 1) := by decide +kernel
theorem dX12_number_0 : decode cX12_number 0 = .ok (.aload_n 0, 1) := by decide +kernel
theorem dX12_number_1 : decode cX12_number 1 = .ok (.getfield 104, 3) := by decide +kernel
theorem dX12_number_4 : decode cX12_number 4 = .ok (.ifCond .ne 10, 3) := by decide +kernel
theorem dX12_number_7 : decode cX12_number 7 = .ok (.aload_n 0, 1) := by decide +kernel
theorem dX12_number_8 : decode cX12_number 8 = .ok (.invokevirtual 116, 3) := by decide +kernel
theorem dX12_number_11 : decode cX12_number 11 = .ok (.ifCond .ne 13, 3) := by decide +kernel
theorem dX12_number_14 : decode cX12_number 14 = .ok (.aload_n 0, 1) := by decide +kernel
theorem dX12_number_15 : decode cX12_number 15 = .ok (.aload_n 0, 1) := by decide +kernel
theorem dX12_number_16 : decode cX12_number 16 = .ok (.getfield 98, 3) := by decide +kernel
theorem dX12_number_19 : decode cX12_number 19 = .ok (.invokevirtual 112, 3) := by decide +kernel
theorem dX12_number_22 : decode cX12_number 22 = .ok (.iload_n 1, 1) := by decide +kernel
theorem dX12_number_23 : decode cX12_number 23 = .ok (.ireturn, 1) := by decide +kernel
theorem dX12_number_24 : decode cX12_number 24 = .ok (.aload_n 0, 1) := by decide +kernel
theorem dX12_number_25 : decode cX12_number 25 = .ok (.getfield 98, 3) := by decide +kernel
theorem dX12_number_28 : decode cX12_number 28 = .ok (.istore_n 3, 1) := by decide +kernel
theorem dX12_number_29 : decode cX12_number 29 = .ok (.aload_n 0, 1) := by decide +kernel
theorem dX12_number_30 : decode cX12_number 30 = .ok (.invokevirtual 108, 3) := by decide +kernel
theorem dX12_number_33 : decode cX12_number 33 = .ok (.bipush 48, 2) := by decide +kernel
theorem dX12_number_35 : decode cX12_number 35 = .ok (.isub, 1) := by decide +kernel
theorem dX12_number_36 : decode cX12_number 36 = .ok (.istore 4, 2) := by decide +kernel
theorem dX12_number_38 : decode cX12_number 38 = .ok (.aload_n 0, 1) := by decide +kernel
theorem dX12_number_39 : decode cX12_number 39 = .ok (.dup, 1) := by decide +kernel
theorem dX12_number_40 : decode cX12_number 40 = .ok (.getfield 98, 3) := by decide +kernel
theorem dX12_number_43 : decode cX12_number 43 = .ok (.iconst 1, 1) := by decide +kernel
theorem dX12_number_44 : decode cX12_number 44 = .ok (.iadd, 1) := by decide +kernel
theorem dX12_number_45 : decode cX12_number 45 = .ok (.putfield 98, 3) := by decide +kernel
theorem dX12_number_48 : decode cX12_number 48 = .ok (.aload_n 0, 1) := by decide +kernel
theorem dX12_number_49 : decode cX12_number 49 = .ok (.invokevirtual 116, 3) := by decide +kernel
theorem dX12_number_52 : decode cX12_number 52 = .ok (.ifCond .eq 28, 3) := by decide +kernel
theorem dX12_number_55 : decode cX12_number 55 = .ok (.bipush 10, 2) := by decide +kernel
theorem dX12_number_57 : decode cX12_number 57 = .ok (.iload 4, 2) := by decide +kernel
theorem dX12_number_59 : decode cX12_number 59 = .ok (.imul, 1) := by decide +kernel
theorem dX12_number_60 : decode cX12_number 60 = .ok (.aload_n 0, 1) := by decide +kernel
theorem dX12_number_61 : decode cX12_number 61 = .ok (.invokevirtual 108, 3) := by decide +kernel
theorem dX12_number_64 : decode cX12_number 64 = .ok (.iadd, 1) := by decide +kernel
theorem dX12_number_65 : decode cX12_number 65 = .ok (.bipush 48, 2) := by decide +kernel
theorem dX12_number_67 : decode cX12_number 67 = .ok (.isub, 1) := by decide +kernel
theorem dX12_number_68 : decode cX12_number 68 = .ok (.istore 4, 2) := by decide +kernel
theorem dX12_number_70 : decode cX12_number 70 = .ok (.aload_n 0, 1) := by decide +kernel
theorem dX12_number_71 : decode cX12_number 71 = .ok (.dup, 1) := by decide +kernel
theorem dX12_number_72 : decode cX12_number 72 = .ok (.getfield 98, 3) := by decide +kernel
theorem dX12_number_75 : decode cX12_number 75 = .ok (.iconst 1, 1) := by decide +kernel
theorem dX12_number_76 : decode cX12_number 76 = .ok (.iadd, 1) := by decide +kernel
theorem dX12_number_77 : decode cX12_number 77 = .ok (.putfield 98, 3) := by decide +kernel
theorem dX12_number_80 : decode cX12_number 80 = .ok (.iload 4, 2) := by decide +kernel
theorem dX12_number_82 : decode cX12_number 82 = .ok (.iload_n 1, 1) := by decide +kernel
theorem dX12_number_83 : decode cX12_number 83 = .ok (.iload_n 2, 1) := by decide +kernel
theorem dX12_number_84 : decode cX12_number 84 = .ok (.invokestatic 67, 3) := by decide +kernel
theorem dX12_number_87 : decode cX12_number 87 = .ok (.ifCond .ne 10, 3) := by decide +kernel
theorem dX12_number_90 : decode cX12_number 90 = .ok (.aload_n 0, 1) := by decide +kernel
theorem dX12_number_91 : decode cX12_number 91 = .ok (.iload_n 3, 1) := by decide +kernel
theorem dX12_number_92 : decode cX12_number 92 = .ok (.invokevirtual 112, 3) := by decide +kernel
theorem dX12_number_95 : decode cX12_number 95 = .ok (.iload_n 1, 1) := by decide +kernel
theorem dX12_number_96 : decode cX12_number 96 = .ok (.ireturn, 1) := by decide +kernel
theorem dX12_number_97 : decode cX12_number 97 = .ok (.iload 4, 2) := by decide +kernel
theorem dX12_number_99 : decode cX12_number 99 = .ok (.ireturn, 1) := by decide +kernel
theorem dX12_set__0 : decode cX12_set_ 0 = .ok (.iconst 0, 1) := by decide +kernel
theorem dX12_set__1 : decode cX12_set_ 1 = .ok (.istore_n 1, 1) := by decide +kernel
theorem dX12_set__2 : decode cX12_set_ 2 = .ok (.aload_n 0, 1) := by decide +kernel
theorem dX12_set__3 : decode cX12_set_ 3 = .ok (.getfield 104, 3) := by decide +kernel
theorem dX12_set__6 : decode cX12_set_ 6 = .ok (.ifCond .ne 10, 3) := by decide +kernel
theorem dX12_set__9 : decode cX12_set_ 9 = .ok (.aload_n 0, 1) := by decide +kernel
theorem dX12_set__10 : decode cX12_set_ 10 = .ok (.invokevirtual 116, 3) := by decide +kernel
theorem dX12_set__13 : decode cX12_set_ 13 = .ok (.ifCond .ne 5, 3) := by decide +kernel
theorem dX12_set__16 : decode cX12_set_ 16 = .ok (.iload_n 1, 1) := by decide +kernel
theorem dX12_set__17 : decode cX12_set_ 17 = .ok (.ireturn, 1) := by decide +kernel
theorem dX12_set__18 : decode cX12_set_ 18 = .ok (.iconst 1, 1) := by decide +kernel
theorem dX12_set__19 : decode cX12_set_ 19 = .ok (.aload_n 0, 1) := by decide +kernel
theorem dX12_set__20 : decode cX12_set_ 20 = .ok (.iconst 0, 1) := by decide +kernel
theorem dX12_set__21 : decode cX12_set_ 21 = .ok (.bipush 29, 2) := by decide +kernel
theorem dX12_set__23 : decode cX12_set_ 23 = .ok (.invokevirtual 120, 3) := by decide +kernel
theorem dX12_set__26 : decode cX12_set_ 26 = .ok (.ishl, 1) := by decide +kernel
theorem dX12_set__27 : decode cX12_set_ 27 = .ok (.istore_n 1, 1) := by decide +kernel
theorem dX12_set__28 : decode cX12_set_ 28 = .ok (.aload_n 0, 1) := by decide +kernel
theorem dX12_set__29 : decode cX12_set_ 29 = .ok (.getfield 104, 3) := by decide +kernel
theorem dX12_set__32 : decode cX12_set_ 32 = .ok (.ifCond .ne 53, 3) := by decide +kernel
theorem dX12_set__35 : decode cX12_set_ 35 = .ok (.aload_n 0, 1) := by decide +kernel
theorem dX12_set__36 : decode cX12_set_ 36 = .ok (.getfield 98, 3) := by decide +kernel
theorem dX12_set__39 : decode cX12_set_ 39 = .ok (.aload_n 0, 1) := by decide +kernel
theorem dX12_set__40 : decode cX12_set_ 40 = .ok (.getfield 22, 3) := by decide +kernel
theorem dX12_set__43 : decode cX12_set_ 43 = .ok (.aload_n 0, 1) := by decide +kernel
theorem dX12_set__44 : decode cX12_set_ 44 = .ok (.getfield 101, 3) := by decide +kernel
theorem dX12_set__47 : decode cX12_set_ 47 = .ok (.iaload, 1) := by decide +kernel
theorem dX12_set__48 : decode cX12_set_ 48 = .ok (.if_icmp .ge 37, 3) := by decide +kernel
theorem dX12_set__51 : decode cX12_set_ 51 = .ok (.aload_n 0, 1) := by decide +kernel
theorem dX12_set__52 : decode cX12_set_ 52 = .ok (.invokevirtual 108, 3) := by decide +kernel
theorem dX12_set__55 : decode cX12_set_ 55 = .ok (.bipush 44, 2) := by decide +kernel
theorem dX12_set__57 : decode cX12_set_ 57 = .ok (.if_icmp .ne 28, 3) := by decide +kernel
theorem dX12_set__60 : decode cX12_set_ 60 = .ok (.aload_n 0, 1) := by decide +kernel
theorem dX12_set__61 : decode cX12_set_ 61 = .ok (.dup, 1) := by decide +kernel
theorem dX12_set__62 : decode cX12_set_ 62 = .ok (.getfield 98, 3) := by decide +kernel
theorem dX12_set__65 : decode cX12_set_ 65 = .ok (.iconst 1, 1) := by decide +kernel
theorem dX12_set__66 : decode cX12_set_ 66 = .ok (.iadd, 1) := by decide +kernel
theorem dX12_set__67 : decode cX12_set_ 67 = .ok (.putfield 98, 3) := by decide +kernel
theorem dX12_set__70 : decode cX12_set_ 70 = .ok (.iload_n 1, 1) := by decide +kernel
theorem dX12_set__71 : decode cX12_set_ 71 = .ok (.iconst 1, 1) := by decide +kernel
theorem dX12_set__72 : decode cX12_set_ 72 = .ok (.aload_n 0, 1) := by decide +kernel
theorem dX12_set__73 : decode cX12_set_ 73 = .ok (.iconst 0, 1) := by decide +kernel
theorem dX12_set__74 : decode cX12_set_ 74 = .ok (.bipush 29, 2) := by decide +kernel
theorem dX12_set__76 : decode cX12_set_ 76 = .ok (.invokevirtual 120, 3) := by decide +kernel
theorem dX12_set__79 : decode cX12_set_ 79 = .ok (.ishl, 1) := by decide +kernel
theorem dX12_set__80 : decode cX12_set_ 80 = .ok (.ior, 1) := by decide +kernel
theorem dX12_set__81 : decode cX12_set_ 81 = .ok (.istore_n 1, 1) := by decide +kernel
theorem dX12_set__82 : decode cX12_set_ 82 = .ok (.goto (-54), 3) := by decide +kernel
theorem dX12_set__85 : decode cX12_set_ 85 = .ok (.iload_n 1, 1) := by decide +kernel
theorem dX12_set__86 : decode cX12_set_ 86 = .ok (.ireturn, 1) := by decide +kernel
theorem dX12_word_0 : decode cX12_word 0 = .ok (.iload_n 1, 1) := by decide +kernel
theorem dX12_word_1 : decode cX12_word 1 = .ok (.bipush 115, 2) := by decide +kernel
theorem dX12_word_3 : decode cX12_word 3 = .ok (.if_icmp .ne 8, 3) := by decide +kernel
theorem dX12_word_6 : decode cX12_word 6 = .ok (.ldc 124, 2) := by decide +kernel
theorem dX12_word_8 : decode cX12_word 8 = .ok (.goto 27, 3) := by decide +kernel
theorem dX12_word_11 : decode cX12_word 11 = .ok (.iload_n 1, 1) := by decide +kernel
theorem dX12_word_12 : decode cX12_word 12 = .ok (.bipush 103, 2) := by decide +kernel
theorem dX12_word_14 : decode cX12_word 14 = .ok (.if_icmp .ne 8, 3) := by decide +kernel
theorem dX12_word_17 : decode cX12_word 17 = .ok (.ldc 126, 2) := by decide +kernel
theorem dX12_word_19 : decode cX12_word 19 = .ok (.goto 16, 3) := by decide +kernel
theorem dX12_word_22 : decode cX12_word 22 = .ok (.iload_n 1, 1) := by decide +kernel
theorem dX12_word_23 : decode cX12_word 23 = .ok (.bipush 110, 2) := by decide +kernel
theorem dX12_word_25 : decode cX12_word 25 = .ok (.if_icmp .ne 8, 3) := by decide +kernel
theorem dX12_word_28 : decode cX12_word 28 = .ok (.ldc 128, 2) := by decide +kernel
theorem dX12_word_30 : decode cX12_word 30 = .ok (.goto 5, 3) := by decide +kernel
theorem dX12_word_33 : decode cX12_word 33 = .ok (.ldc 130, 2) := by decide +kernel
theorem dX12_word_35 : decode cX12_word 35 = .ok (.astore_n 2, 1) := by decide +kernel
theorem dX12_word_36 : decode cX12_word 36 = .ok (.aload_n 0, 1) := by decide +kernel
theorem dX12_word_37 : decode cX12_word 37 = .ok (.getfield 98, 3) := by decide +kernel
theorem dX12_word_40 : decode cX12_word 40 = .ok (.istore_n 3, 1) := by decide +kernel
theorem dX12_word_41 : decode cX12_word 41 = .ok (.iconst 0, 1) := by decide +kernel
theorem dX12_word_42 : decode cX12_word 42 = .ok (.istore 4, 2) := by decide +kernel
theorem dX12_word_44 : decode cX12_word 44 = .ok (.iload 4, 2) := by decide +kernel
theorem dX12_word_46 : decode cX12_word 46 = .ok (.aload_n 2, 1) := by decide +kernel
theorem dX12_word_47 : decode cX12_word 47 = .ok (.invokevirtual 132, 3) := by decide +kernel
theorem dX12_word_50 : decode cX12_word 50 = .ok (.if_icmp .ge 66, 3) := by decide +kernel
theorem dX12_word_53 : decode cX12_word 53 = .ok (.iload 4, 2) := by decide +kernel
theorem dX12_word_55 : decode cX12_word 55 = .ok (.aload_n 2, 1) := by decide +kernel
theorem dX12_word_56 : decode cX12_word 56 = .ok (.invokevirtual 132, 3) := by decide +kernel
theorem dX12_word_59 : decode cX12_word 59 = .ok (.iconst 1, 1) := by decide +kernel
theorem dX12_word_60 : decode cX12_word 60 = .ok (.isub, 1) := by decide +kernel
theorem dX12_word_61 : decode cX12_word 61 = .ok (.if_icmp .ne 39, 3) := by decide +kernel
theorem dX12_word_64 : decode cX12_word 64 = .ok (.iload_n 1, 1) := by decide +kernel
theorem dX12_word_65 : decode cX12_word 65 = .ok (.bipush 97, 2) := by decide +kernel
theorem dX12_word_67 : decode cX12_word 67 = .ok (.if_icmp .ne 33, 3) := by decide +kernel
theorem dX12_word_70 : decode cX12_word 70 = .ok (.aload_n 0, 1) := by decide +kernel
theorem dX12_word_71 : decode cX12_word 71 = .ok (.getfield 7, 3) := by decide +kernel
theorem dX12_word_74 : decode cX12_word 74 = .ok (.sipush 172, 3) := by decide +kernel
theorem dX12_word_77 : decode cX12_word 77 = .ok (.iaload, 1) := by decide +kernel
theorem dX12_word_78 : decode cX12_word 78 = .ok (.aload_n 0, 1) := by decide +kernel
theorem dX12_word_79 : decode cX12_word 79 = .ok (.getfield 137, 3) := by decide +kernel
theorem dX12_word_82 : decode cX12_word 82 = .ok (.iadd, 1) := by decide +kernel
theorem dX12_word_83 : decode cX12_word 83 = .ok (.bipush 24, 2) := by decide +kernel
theorem dX12_word_85 : decode cX12_word 85 = .ok (.if_icmp .ne 15, 3) := by decide +kernel
theorem dX12_word_88 : decode cX12_word 88 = .ok (.aload_n 0, 1) := by decide +kernel
theorem dX12_word_89 : decode cX12_word 89 = .ok (.getfield 104, 3) := by decide +kernel
theorem dX12_word_92 : decode cX12_word 92 = .ok (.ifCond .ne 8, 3) := by decide +kernel
theorem dX12_word_95 : decode cX12_word 95 = .ok (.aload_n 0, 1) := by decide +kernel
theorem dX12_word_96 : decode cX12_word 96 = .ok (.iload_n 3, 1) := by decide +kernel
theorem dX12_word_97 : decode cX12_word 97 = .ok (.invokevirtual 112, 3) := by decide +kernel
theorem dX12_word_100 : decode cX12_word 100 = .ok (.aload_n 0, 1) := by decide +kernel
theorem dX12_word_101 : decode cX12_word 101 = .ok (.aload_n 2, 1) := by decide +kernel
theorem dX12_word_102 : decode cX12_word 102 = .ok (.iload 4, 2) := by decide +kernel
theorem dX12_word_104 : decode cX12_word 104 = .ok (.invokevirtual 140, 3) := by decide +kernel
theorem dX12_word_107 : decode cX12_word 107 = .ok (.invokevirtual 144, 3) := by decide +kernel
theorem dX12_word_110 : decode cX12_word 110 = .ok (.iinc 4 1, 3) := by decide +kernel
theorem dX12_word_113 : decode cX12_word 113 = .ok (.goto (-69), 3) := by decide +kernel
theorem dX12_word_116 : decode cX12_word 116 = .ok (.return_, 1) := by decide +kernel
theorem dX12_item_0 : decode cX12_item 0 = .ok (.aload_n 0, 1) := by decide +kernel
theorem dX12_item_1 : decode cX12_item 1 = .ok (.getfield 98, 3) := by decide +kernel
theorem dX12_item_4 : decode cX12_item 4 = .ok (.aload_n 0, 1) := by decide +kernel
theorem dX12_item_5 : decode cX12_item 5 = .ok (.getfield 22, 3) := by decide +kernel
theorem dX12_item_8 : decode cX12_item 8 = .ok (.aload_n 0, 1) := by decide +kernel
theorem dX12_item_9 : decode cX12_item 9 = .ok (.getfield 101, 3) := by decide +kernel
theorem dX12_item_12 : decode cX12_item 12 = .ok (.iaload, 1) := by decide +kernel
theorem dX12_item_13 : decode cX12_item 13 = .ok (.if_icmp .ge 10, 3) := by decide +kernel
theorem dX12_item_16 : decode cX12_item 16 = .ok (.aload_n 0, 1) := by decide +kernel
theorem dX12_item_17 : decode cX12_item 17 = .ok (.invokevirtual 108, 3) := by decide +kernel
theorem dX12_item_20 : decode cX12_item 20 = .ok (.goto 4, 3) := by decide +kernel
theorem dX12_item_23 : decode cX12_item 23 = .ok (.iconst 0, 1) := by decide +kernel
theorem dX12_item_24 : decode cX12_item 24 = .ok (.istore_n 2, 1) := by decide +kernel
theorem dX12_item_25 : decode cX12_item 25 = .ok (.aload_n 0, 1) := by decide +kernel
theorem dX12_item_26 : decode cX12_item 26 = .ok (.iload_n 2, 1) := by decide +kernel
theorem dX12_item_27 : decode cX12_item 27 = .ok (.invokevirtual 147, 3) := by decide +kernel
theorem dX12_item_30 : decode cX12_item 30 = .ok (.aload_n 0, 1) := by decide +kernel
theorem dX12_item_31 : decode cX12_item 31 = .ok (.getfield 104, 3) := by decide +kernel
theorem dX12_item_34 : decode cX12_item 34 = .ok (.ifCond .eq 4, 3) := by decide +kernel
theorem dX12_item_37 : decode cX12_item 37 = .ok (.return_, 1) := by decide +kernel
theorem dX12_item_38 : decode cX12_item 38 = .ok (.aload_n 0, 1) := by decide +kernel
theorem dX12_item_39 : decode cX12_item 39 = .ok (.invokevirtual 150, 3) := by decide +kernel
theorem dX12_item_42 : decode cX12_item 42 = .ok (.istore_n 3, 1) := by decide +kernel
theorem dX12_item_43 : decode cX12_item 43 = .ok (.iload_n 2, 1) := by decide +kernel
theorem dX12_item_44 : decode cX12_item 44 = .ok (.bipush 97, 2) := by decide +kernel
theorem dX12_item_46 : decode cX12_item 46 = .ok (.if_icmp .eq 41, 3) := by decide +kernel
theorem dX12_item_49 : decode cX12_item 49 = .ok (.iload_n 1, 1) := by decide +kernel
theorem dX12_item_50 : decode cX12_item 50 = .ok (.ifCond .eq 36, 3) := by decide +kernel
theorem dX12_item_53 : decode cX12_item 53 = .ok (.aload_n 0, 1) := by decide +kernel
theorem dX12_item_54 : decode cX12_item 54 = .ok (.getfield 7, 3) := by decide +kernel
theorem dX12_item_57 : decode cX12_item 57 = .ok (.iload_n 2, 1) := by decide +kernel
theorem dX12_item_58 : decode cX12_item 58 = .ok (.bipush 115, 2) := by decide +kernel
theorem dX12_item_60 : decode cX12_item 60 = .ok (.if_icmp .ne 9, 3) := by decide +kernel
theorem dX12_item_63 : decode cX12_item 63 = .ok (.sipush 168, 3) := by decide +kernel
theorem dX12_item_66 : decode cX12_item 66 = .ok (.goto 18, 3) := by decide +kernel
theorem dX12_item_69 : decode cX12_item 69 = .ok (.iload_n 2, 1) := by decide +kernel
theorem dX12_item_70 : decode cX12_item 70 = .ok (.bipush 103, 2) := by decide +kernel
theorem dX12_item_72 : decode cX12_item 72 = .ok (.if_icmp .ne 9, 3) := by decide +kernel
theorem dX12_item_75 : decode cX12_item 75 = .ok (.sipush 169, 3) := by decide +kernel
theorem dX12_item_78 : decode cX12_item 78 = .ok (.goto 6, 3) := by decide +kernel
theorem dX12_item_81 : decode cX12_item 81 = .ok (.sipush 170, 3) := by decide +kernel
theorem dX12_item_84 : decode cX12_item 84 = .ok (.iload_n 3, 1) := by decide +kernel
theorem dX12_item_85 : decode cX12_item 85 = .ok (.iastore, 1) := by decide +kernel
theorem dX12_item_86 : decode cX12_item 86 = .ok (.return_, 1) := by decide +kernel
theorem dX12_item_87 : decode cX12_item 87 = .ok (.aload_n 0, 1) := by decide +kernel
theorem dX12_item_88 : decode cX12_item 88 = .ok (.bipush 43, 2) := by decide +kernel
theorem dX12_item_90 : decode cX12_item 90 = .ok (.invokevirtual 144, 3) := by decide +kernel
theorem dX12_item_93 : decode cX12_item 93 = .ok (.aload_n 0, 1) := by decide +kernel
theorem dX12_item_94 : decode cX12_item 94 = .ok (.invokevirtual 150, 3) := by decide +kernel
theorem dX12_item_97 : decode cX12_item 97 = .ok (.istore 4, 2) := by decide +kernel
theorem dX12_item_99 : decode cX12_item 99 = .ok (.aload_n 0, 1) := by decide +kernel
theorem dX12_item_100 : decode cX12_item 100 = .ok (.bipush 45, 2) := by decide +kernel
theorem dX12_item_102 : decode cX12_item 102 = .ok (.invokevirtual 144, 3) := by decide +kernel
theorem dX12_item_105 : decode cX12_item 105 = .ok (.aload_n 0, 1) := by decide +kernel
theorem dX12_item_106 : decode cX12_item 106 = .ok (.invokevirtual 150, 3) := by decide +kernel
theorem dX12_item_109 : decode cX12_item 109 = .ok (.istore 5, 2) := by decide +kernel
theorem dX12_item_111 : decode cX12_item 111 = .ok (.aload_n 0, 1) := by decide +kernel
theorem dX12_item_112 : decode cX12_item 112 = .ok (.bipush 36, 2) := by decide +kernel
theorem dX12_item_114 : decode cX12_item 114 = .ok (.invokevirtual 144, 3) := by decide +kernel
theorem dX12_item_117 : decode cX12_item 117 = .ok (.aload_n 0, 1) := by decide +kernel
theorem dX12_item_118 : decode cX12_item 118 = .ok (.iconst 1, 1) := by decide +kernel
theorem dX12_item_119 : decode cX12_item 119 = .ok (.bipush 99, 2) := by decide +kernel
theorem dX12_item_121 : decode cX12_item 121 = .ok (.invokevirtual 120, 3) := by decide +kernel
theorem dX12_item_124 : decode cX12_item 124 = .ok (.istore 6, 2) := by decide +kernel
theorem dX12_item_126 : decode cX12_item 126 = .ok (.iload_n 1, 1) := by decide +kernel
theorem dX12_item_127 : decode cX12_item 127 = .ok (.ifCond .eq 18, 3) := by decide +kernel
theorem dX12_item_130 : decode cX12_item 130 = .ok (.aload_n 0, 1) := by decide +kernel
theorem dX12_item_131 : decode cX12_item 131 = .ok (.iload_n 3, 1) := by decide +kernel
theorem dX12_item_132 : decode cX12_item 132 = .ok (.iload 4, 2) := by decide +kernel
theorem dX12_item_134 : decode cX12_item 134 = .ok (.iload 5, 2) := by decide +kernel
theorem dX12_item_136 : decode cX12_item 136 = .ok (.iload 6, 2) := by decide +kernel
theorem dX12_item_138 : decode cX12_item 138 = .ok (.iconst 0, 1) := by decide +kernel
theorem dX12_item_139 : decode cX12_item 139 = .ok (.iconst (-1), 1) := by decide +kernel
theorem dX12_item_140 : decode cX12_item 140 = .ok (.iconst (-1), 1) := by decide +kernel
theorem dX12_item_141 : decode cX12_item 141 = .ok (.invokevirtual 94, 3) := by decide +kernel
theorem dX12_item_144 : decode cX12_item 144 = .ok (.pop, 1) := by decide +kernel
theorem dX12_item_145 : decode cX12_item 145 = .ok (.aload_n 0, 1) := by decide +kernel
theorem dX12_item_146 : decode cX12_item 146 = .ok (.dup, 1) := by decide +kernel
theorem dX12_item_147 : decode cX12_item 147 = .ok (.getfield 137, 3) := by decide +kernel
theorem dX12_item_150 : decode cX12_item 150 = .ok (.iload_n 1, 1) := by decide +kernel
theorem dX12_item_151 : decode cX12_item 151 = .ok (.ifCond .eq 7, 3) := by decide +kernel
theorem dX12_item_154 : decode cX12_item 154 = .ok (.iconst 0, 1) := by decide +kernel
theorem dX12_item_155 : decode cX12_item 155 = .ok (.goto 4, 3) := by decide +kernel
theorem dX12_item_158 : decode cX12_item 158 = .ok (.iconst 1, 1) := by decide +kernel
theorem dX12_item_159 : decode cX12_item 159 = .ok (.iadd, 1) := by decide +kernel
theorem dX12_item_160 : decode cX12_item 160 = .ok (.putfield 137, 3) := by decide +kernel
theorem dX12_item_163 : decode cX12_item 163 = .ok (.return_, 1) := by decide +kernel
theorem dX12_goesThrough_0 : decode cX12_goesThrough 0 = .ok (.aload_n 0, 1) := by decide +kernel
theorem dX12_goesThrough_1 : decode cX12_goesThrough 1 = .ok (.iconst 0, 1) := by decide +kernel
theorem dX12_goesThrough_2 : decode cX12_goesThrough 2 = .ok (.putfield 98, 3) := by decide +kernel
theorem dX12_goesThrough_5 : decode cX12_goesThrough 5 = .ok (.aload_n 0, 1) := by decide +kernel
theorem dX12_goesThrough_6 : decode cX12_goesThrough 6 = .ok (.iconst 0, 1) := by decide +kernel
theorem dX12_goesThrough_7 : decode cX12_goesThrough 7 = .ok (.putfield 104, 3) := by decide +kernel
theorem dX12_goesThrough_10 : decode cX12_goesThrough 10 = .ok (.aload_n 0, 1) := by decide +kernel
theorem dX12_goesThrough_11 : decode cX12_goesThrough 11 = .ok (.iconst 0, 1) := by decide +kernel
theorem dX12_goesThrough_12 : decode cX12_goesThrough 12 = .ok (.putfield 137, 3) := by decide +kernel
theorem dX12_goesThrough_15 : decode cX12_goesThrough 15 = .ok (.iconst 1, 1) := by decide +kernel
theorem dX12_goesThrough_16 : decode cX12_goesThrough 16 = .ok (.istore_n 2, 1) := by decide +kernel
theorem dX12_goesThrough_17 : decode cX12_goesThrough 17 = .ok (.aload_n 0, 1) := by decide +kernel
theorem dX12_goesThrough_18 : decode cX12_goesThrough 18 = .ok (.iload_n 1, 1) := by decide +kernel
theorem dX12_goesThrough_19 : decode cX12_goesThrough 19 = .ok (.invokevirtual 153, 3) := by decide +kernel
theorem dX12_goesThrough_22 : decode cX12_goesThrough 22 = .ok (.aload_n 0, 1) := by decide +kernel
theorem dX12_goesThrough_23 : decode cX12_goesThrough 23 = .ok (.getfield 104, 3) := by decide +kernel
theorem dX12_goesThrough_26 : decode cX12_goesThrough 26 = .ok (.ifCond .ne 43, 3) := by decide +kernel
theorem dX12_goesThrough_29 : decode cX12_goesThrough 29 = .ok (.aload_n 0, 1) := by decide +kernel
theorem dX12_goesThrough_30 : decode cX12_goesThrough 30 = .ok (.getfield 98, 3) := by decide +kernel
theorem dX12_goesThrough_33 : decode cX12_goesThrough 33 = .ok (.aload_n 0, 1) := by decide +kernel
theorem dX12_goesThrough_34 : decode cX12_goesThrough 34 = .ok (.getfield 22, 3) := by decide +kernel
theorem dX12_goesThrough_37 : decode cX12_goesThrough 37 = .ok (.aload_n 0, 1) := by decide +kernel
theorem dX12_goesThrough_38 : decode cX12_goesThrough 38 = .ok (.getfield 101, 3) := by decide +kernel
theorem dX12_goesThrough_41 : decode cX12_goesThrough 41 = .ok (.iaload, 1) := by decide +kernel
theorem dX12_goesThrough_42 : decode cX12_goesThrough 42 = .ok (.if_icmp .ge 27, 3) := by decide +kernel
theorem dX12_goesThrough_45 : decode cX12_goesThrough 45 = .ok (.aload_n 0, 1) := by decide +kernel
theorem dX12_goesThrough_46 : decode cX12_goesThrough 46 = .ok (.bipush 59, 2) := by decide +kernel
theorem dX12_goesThrough_48 : decode cX12_goesThrough 48 = .ok (.invokevirtual 144, 3) := by decide +kernel
theorem dX12_goesThrough_51 : decode cX12_goesThrough 51 = .ok (.aload_n 0, 1) := by decide +kernel
theorem dX12_goesThrough_52 : decode cX12_goesThrough 52 = .ok (.getfield 104, 3) := by decide +kernel
theorem dX12_goesThrough_55 : decode cX12_goesThrough 55 = .ok (.ifCond .ne (-33), 3) := by decide +kernel
theorem dX12_goesThrough_58 : decode cX12_goesThrough 58 = .ok (.aload_n 0, 1) := by decide +kernel
theorem dX12_goesThrough_59 : decode cX12_goesThrough 59 = .ok (.iload_n 1, 1) := by decide +kernel
theorem dX12_goesThrough_60 : decode cX12_goesThrough 60 = .ok (.invokevirtual 153, 3) := by decide +kernel
theorem dX12_goesThrough_63 : decode cX12_goesThrough 63 = .ok (.iinc 2 1, 3) := by decide +kernel
theorem dX12_goesThrough_66 : decode cX12_goesThrough 66 = .ok (.goto (-44), 3) := by decide +kernel
theorem dX12_goesThrough_69 : decode cX12_goesThrough 69 = .ok (.iload_n 2, 1) := by decide +kernel
theorem dX12_goesThrough_70 : decode cX12_goesThrough 70 = .ok (.ireturn, 1) := by decide +kernel
theorem dX12_read_0 : decode cX12_read 0 = .ok (.aload_n 0, 1) := by decide +kernel
theorem dX12_read_1 : decode cX12_read 1 = .ok (.iload_n 1, 1) := by decide +kernel
theorem dX12_read_2 : decode cX12_read 2 = .ok (.invokevirtual 79, 3) := by decide +kernel
theorem dX12_read_5 : decode cX12_read 5 = .ok (.istore_n 2, 1) := by decide +kernel
theorem dX12_read_6 : decode cX12_read 6 = .ok (.iload_n 2, 1) := by decide +kernel
theorem dX12_read_7 : decode cX12_read 7 = .ok (.ifCond .eq 9, 3) := by decide +kernel
theorem dX12_read_10 : decode cX12_read 10 = .ok (.aload_n 0, 1) := by decide +kernel
theorem dX12_read_11 : decode cX12_read 11 = .ok (.iload_n 2, 1) := by decide +kernel
theorem dX12_read_12 : decode cX12_read 12 = .ok (.invokevirtual 75, 3) := by decide +kernel
theorem dX12_read_15 : decode cX12_read 15 = .ok (.ireturn, 1) := by decide +kernel
theorem dX12_read_16 : decode cX12_read 16 = .ok (.aload_n 0, 1) := by decide +kernel
theorem dX12_read_17 : decode cX12_read 17 = .ok (.iload_n 1, 1) := by decide +kernel
theorem dX12_read_18 : decode cX12_read 18 = .ok (.putfield 101, 3) := by decide +kernel
theorem dX12_read_21 : decode cX12_read 21 = .ok (.aload_n 0, 1) := by decide +kernel
theorem dX12_read_22 : decode cX12_read 22 = .ok (.iconst (-1), 1) := by decide +kernel
theorem dX12_read_23 : decode cX12_read 23 = .ok (.putfield 32, 3) := by decide +kernel
theorem dX12_read_26 : decode cX12_read 26 = .ok (.aload_n 0, 1) := by decide +kernel
theorem dX12_read_27 : decode cX12_read 27 = .ok (.iconst 0, 1) := by decide +kernel
theorem dX12_read_28 : decode cX12_read 28 = .ok (.invokevirtual 157, 3) := by decide +kernel
theorem dX12_read_31 : decode cX12_read 31 = .ok (.pop, 1) := by decide +kernel
theorem dX12_read_32 : decode cX12_read 32 = .ok (.aload_n 0, 1) := by decide +kernel
theorem dX12_read_33 : decode cX12_read 33 = .ok (.getfield 104, 3) := by decide +kernel
theorem dX12_read_36 : decode cX12_read 36 = .ok (.ifCond .eq 10, 3) := by decide +kernel
theorem dX12_read_39 : decode cX12_read 39 = .ok (.aload_n 0, 1) := by decide +kernel
theorem dX12_read_40 : decode cX12_read 40 = .ok (.bipush (-6), 2) := by decide +kernel
theorem dX12_read_42 : decode cX12_read 42 = .ok (.invokevirtual 75, 3) := by decide +kernel
theorem dX12_read_45 : decode cX12_read 45 = .ok (.ireturn, 1) := by decide +kernel
theorem dX12_read_46 : decode cX12_read 46 = .ok (.aload_n 0, 1) := by decide +kernel
theorem dX12_read_47 : decode cX12_read 47 = .ok (.iconst 1, 1) := by decide +kernel
theorem dX12_read_48 : decode cX12_read 48 = .ok (.invokevirtual 157, 3) := by decide +kernel
theorem dX12_read_51 : decode cX12_read 51 = .ok (.ireturn, 1) := by decide +kernel
theorem dX12_fault_0 : decode cX12_fault 0 = .ok (.aload_n 0, 1) := by decide +kernel
theorem dX12_fault_1 : decode cX12_fault 1 = .ok (.getfield 32, 3) := by decide +kernel
theorem dX12_fault_4 : decode cX12_fault 4 = .ok (.ireturn, 1) := by decide +kernel
theorem dX12_put_0 : decode cX12_put 0 = .ok (.iload_n 1, 1) := by decide +kernel
theorem dX12_put_1 : decode cX12_put 1 = .ok (.iconst 0, 1) := by decide +kernel
theorem dX12_put_2 : decode cX12_put 2 = .ok (.iconst 2, 1) := by decide +kernel
theorem dX12_put_3 : decode cX12_put 3 = .ok (.invokestatic 67, 3) := by decide +kernel
theorem dX12_put_6 : decode cX12_put 6 = .ok (.ifCond .ne 10, 3) := by decide +kernel
theorem dX12_put_9 : decode cX12_put 9 = .ok (.aload_n 0, 1) := by decide +kernel
theorem dX12_put_10 : decode cX12_put 10 = .ok (.bipush (-5), 2) := by decide +kernel
theorem dX12_put_12 : decode cX12_put 12 = .ok (.invokevirtual 75, 3) := by decide +kernel
theorem dX12_put_15 : decode cX12_put 15 = .ok (.ireturn, 1) := by decide +kernel
theorem dX12_put_16 : decode cX12_put 16 = .ok (.iload_n 2, 1) := by decide +kernel
theorem dX12_put_17 : decode cX12_put 17 = .ok (.invokestatic 91, 3) := by decide +kernel
theorem dX12_put_20 : decode cX12_put 20 = .ok (.ifCond .ne 10, 3) := by decide +kernel
theorem dX12_put_23 : decode cX12_put 23 = .ok (.aload_n 0, 1) := by decide +kernel
theorem dX12_put_24 : decode cX12_put 24 = .ok (.bipush (-6), 2) := by decide +kernel
theorem dX12_put_26 : decode cX12_put 26 = .ok (.invokevirtual 75, 3) := by decide +kernel
theorem dX12_put_29 : decode cX12_put 29 = .ok (.ireturn, 1) := by decide +kernel
theorem dX12_put_30 : decode cX12_put 30 = .ok (.aload_n 0, 1) := by decide +kernel
theorem dX12_put_31 : decode cX12_put 31 = .ok (.getfield 7, 3) := by decide +kernel
theorem dX12_put_34 : decode cX12_put 34 = .ok (.sipush 168, 3) := by decide +kernel
theorem dX12_put_37 : decode cX12_put 37 = .ok (.iload_n 1, 1) := by decide +kernel
theorem dX12_put_38 : decode cX12_put 38 = .ok (.iadd, 1) := by decide +kernel
theorem dX12_put_39 : decode cX12_put 39 = .ok (.iaload, 1) := by decide +kernel
theorem dX12_put_40 : decode cX12_put 40 = .ok (.istore_n 3, 1) := by decide +kernel
theorem dX12_put_41 : decode cX12_put 41 = .ok (.aload_n 0, 1) := by decide +kernel
theorem dX12_put_42 : decode cX12_put 42 = .ok (.getfield 7, 3) := by decide +kernel
theorem dX12_put_45 : decode cX12_put 45 = .ok (.sipush 168, 3) := by decide +kernel
theorem dX12_put_48 : decode cX12_put 48 = .ok (.iload_n 1, 1) := by decide +kernel
theorem dX12_put_49 : decode cX12_put 49 = .ok (.iadd, 1) := by decide +kernel
theorem dX12_put_50 : decode cX12_put 50 = .ok (.iload_n 2, 1) := by decide +kernel
theorem dX12_put_51 : decode cX12_put 51 = .ok (.iastore, 1) := by decide +kernel
theorem dX12_put_52 : decode cX12_put 52 = .ok (.iload_n 3, 1) := by decide +kernel
theorem dX12_put_53 : decode cX12_put 53 = .ok (.ireturn, 1) := by decide +kernel
theorem dX12_mayBe_0 : decode cX12_mayBe 0 = .ok (.iload_n 1, 1) := by decide +kernel
theorem dX12_mayBe_1 : decode cX12_mayBe 1 = .ok (.aload_n 0, 1) := by decide +kernel
theorem dX12_mayBe_2 : decode cX12_mayBe 2 = .ok (.getfield 7, 3) := by decide +kernel
theorem dX12_mayBe_5 : decode cX12_mayBe 5 = .ok (.iconst 0, 1) := by decide +kernel
theorem dX12_mayBe_6 : decode cX12_mayBe 6 = .ok (.iload_n 2, 1) := by decide +kernel
theorem dX12_mayBe_7 : decode cX12_mayBe 7 = .ok (.iadd, 1) := by decide +kernel
theorem dX12_mayBe_8 : decode cX12_mayBe 8 = .ok (.iaload, 1) := by decide +kernel
theorem dX12_mayBe_9 : decode cX12_mayBe 9 = .ok (.invokestatic 161, 3) := by decide +kernel
theorem dX12_mayBe_12 : decode cX12_mayBe 12 = .ok (.ireturn, 1) := by decide +kernel
theorem dX12_behindIt_0 : decode cX12_behindIt 0 = .ok (.iload_n 1, 1) := by decide +kernel
theorem dX12_behindIt_1 : decode cX12_behindIt 1 = .ok (.aload_n 0, 1) := by decide +kernel
theorem dX12_behindIt_2 : decode cX12_behindIt 2 = .ok (.getfield 7, 3) := by decide +kernel
theorem dX12_behindIt_5 : decode cX12_behindIt 5 = .ok (.bipush 48, 2) := by decide +kernel
theorem dX12_behindIt_7 : decode cX12_behindIt 7 = .ok (.iload_n 2, 1) := by decide +kernel
theorem dX12_behindIt_8 : decode cX12_behindIt 8 = .ok (.iadd, 1) := by decide +kernel
theorem dX12_behindIt_9 : decode cX12_behindIt 9 = .ok (.iaload, 1) := by decide +kernel
theorem dX12_behindIt_10 : decode cX12_behindIt 10 = .ok (.iconst (-1), 1) := by decide +kernel
theorem dX12_behindIt_11 : decode cX12_behindIt 11 = .ok (.ixor, 1) := by decide +kernel
theorem dX12_behindIt_12 : decode cX12_behindIt 12 = .ok (.iand, 1) := by decide +kernel
theorem dX12_behindIt_13 : decode cX12_behindIt 13 = .ok (.aload_n 0, 1) := by decide +kernel
theorem dX12_behindIt_14 : decode cX12_behindIt 14 = .ok (.getfield 7, 3) := by decide +kernel
theorem dX12_behindIt_17 : decode cX12_behindIt 17 = .ok (.bipush 24, 2) := by decide +kernel
theorem dX12_behindIt_19 : decode cX12_behindIt 19 = .ok (.iload_n 2, 1) := by decide +kernel
theorem dX12_behindIt_20 : decode cX12_behindIt 20 = .ok (.iadd, 1) := by decide +kernel
theorem dX12_behindIt_21 : decode cX12_behindIt 21 = .ok (.iaload, 1) := by decide +kernel
theorem dX12_behindIt_22 : decode cX12_behindIt 22 = .ok (.ior, 1) := by decide +kernel
theorem dX12_behindIt_23 : decode cX12_behindIt 23 = .ok (.ireturn, 1) := by decide +kernel
theorem dX12_may_0 : decode cX12_may 0 = .ok (.iload_n 1, 1) := by decide +kernel
theorem dX12_may_1 : decode cX12_may 1 = .ok (.invokestatic 91, 3) := by decide +kernel
theorem dX12_may_4 : decode cX12_may 4 = .ok (.ifCond .ne 10, 3) := by decide +kernel
theorem dX12_may_7 : decode cX12_may 7 = .ok (.aload_n 0, 1) := by decide +kernel
theorem dX12_may_8 : decode cX12_may 8 = .ok (.bipush (-6), 2) := by decide +kernel
theorem dX12_may_10 : decode cX12_may 10 = .ok (.invokevirtual 75, 3) := by decide +kernel
theorem dX12_may_13 : decode cX12_may 13 = .ok (.ireturn, 1) := by decide +kernel
theorem dX12_may_14 : decode cX12_may 14 = .ok (.iconst 0, 1) := by decide +kernel
theorem dX12_may_15 : decode cX12_may 15 = .ok (.istore_n 2, 1) := by decide +kernel
theorem dX12_may_16 : decode cX12_may 16 = .ok (.iconst 0, 1) := by decide +kernel
theorem dX12_may_17 : decode cX12_may 17 = .ok (.istore_n 3, 1) := by decide +kernel
theorem dX12_may_18 : decode cX12_may 18 = .ok (.iload_n 3, 1) := by decide +kernel
theorem dX12_may_19 : decode cX12_may 19 = .ok (.aload_n 0, 1) := by decide +kernel
theorem dX12_may_20 : decode cX12_may 20 = .ok (.getfield 7, 3) := by decide +kernel
theorem dX12_may_23 : decode cX12_may 23 = .ok (.sipush 172, 3) := by decide +kernel
theorem dX12_may_26 : decode cX12_may 26 = .ok (.iaload, 1) := by decide +kernel
theorem dX12_may_27 : decode cX12_may 27 = .ok (.if_icmp .ge 28, 3) := by decide +kernel
theorem dX12_may_30 : decode cX12_may 30 = .ok (.iload_n 2, 1) := by decide +kernel
theorem dX12_may_31 : decode cX12_may 31 = .ok (.aload_n 0, 1) := by decide +kernel
theorem dX12_may_32 : decode cX12_may 32 = .ok (.iload_n 1, 1) := by decide +kernel
theorem dX12_may_33 : decode cX12_may 33 = .ok (.iload_n 3, 1) := by decide +kernel
theorem dX12_may_34 : decode cX12_may 34 = .ok (.invokevirtual 165, 3) := by decide +kernel
theorem dX12_may_37 : decode cX12_may 37 = .ok (.ifCond .eq 9, 3) := by decide +kernel
theorem dX12_may_40 : decode cX12_may 40 = .ok (.iconst 1, 1) := by decide +kernel
theorem dX12_may_41 : decode cX12_may 41 = .ok (.iload_n 3, 1) := by decide +kernel
theorem dX12_may_42 : decode cX12_may 42 = .ok (.ishl, 1) := by decide +kernel
theorem dX12_may_43 : decode cX12_may 43 = .ok (.goto 4, 3) := by decide +kernel
theorem dX12_may_46 : decode cX12_may 46 = .ok (.iconst 0, 1) := by decide +kernel
theorem dX12_may_47 : decode cX12_may 47 = .ok (.ior, 1) := by decide +kernel
theorem dX12_may_48 : decode cX12_may 48 = .ok (.istore_n 2, 1) := by decide +kernel
theorem dX12_may_49 : decode cX12_may 49 = .ok (.iinc 3 1, 3) := by decide +kernel
theorem dX12_may_52 : decode cX12_may 52 = .ok (.goto (-34), 3) := by decide +kernel
theorem dX12_may_55 : decode cX12_may 55 = .ok (.iload_n 2, 1) := by decide +kernel
theorem dX12_may_56 : decode cX12_may 56 = .ok (.ireturn, 1) := by decide +kernel
theorem dX12_then_0 : decode cX12_then 0 = .ok (.aload_n 0, 1) := by decide +kernel
theorem dX12_then_1 : decode cX12_then 1 = .ok (.iload_n 2, 1) := by decide +kernel
theorem dX12_then_2 : decode cX12_then 2 = .ok (.invokevirtual 85, 3) := by decide +kernel
theorem dX12_then_5 : decode cX12_then 5 = .ok (.ifCond .ne 9, 3) := by decide +kernel
theorem dX12_then_8 : decode cX12_then 8 = .ok (.aload_n 0, 1) := by decide +kernel
theorem dX12_then_9 : decode cX12_then 9 = .ok (.iconst (-1), 1) := by decide +kernel
theorem dX12_then_10 : decode cX12_then 10 = .ok (.invokevirtual 75, 3) := by decide +kernel
theorem dX12_then_13 : decode cX12_then 13 = .ok (.ireturn, 1) := by decide +kernel
theorem dX12_then_14 : decode cX12_then 14 = .ok (.iload_n 1, 1) := by decide +kernel
theorem dX12_then_15 : decode cX12_then 15 = .ok (.invokestatic 91, 3) := by decide +kernel
theorem dX12_then_18 : decode cX12_then 18 = .ok (.ifCond .eq 21, 3) := by decide +kernel
theorem dX12_then_21 : decode cX12_then 21 = .ok (.aload_n 0, 1) := by decide +kernel
theorem dX12_then_22 : decode cX12_then 22 = .ok (.iload_n 1, 1) := by decide +kernel
theorem dX12_then_23 : decode cX12_then 23 = .ok (.iload_n 2, 1) := by decide +kernel
theorem dX12_then_24 : decode cX12_then 24 = .ok (.invokevirtual 165, 3) := by decide +kernel
theorem dX12_then_27 : decode cX12_then 27 = .ok (.ifCond .eq 12, 3) := by decide +kernel
theorem dX12_then_30 : decode cX12_then 30 = .ok (.aload_n 0, 1) := by decide +kernel
theorem dX12_then_31 : decode cX12_then 31 = .ok (.iload_n 1, 1) := by decide +kernel
theorem dX12_then_32 : decode cX12_then 32 = .ok (.iload_n 2, 1) := by decide +kernel
theorem dX12_then_33 : decode cX12_then 33 = .ok (.invokevirtual 168, 3) := by decide +kernel
theorem dX12_then_36 : decode cX12_then 36 = .ok (.goto 9, 3) := by decide +kernel
theorem dX12_then_39 : decode cX12_then 39 = .ok (.aload_n 0, 1) := by decide +kernel
theorem dX12_then_40 : decode cX12_then 40 = .ok (.bipush (-6), 2) := by decide +kernel
theorem dX12_then_42 : decode cX12_then 42 = .ok (.invokevirtual 75, 3) := by decide +kernel
theorem dX12_then_45 : decode cX12_then 45 = .ok (.ireturn, 1) := by decide +kernel
theorem dX12_nextLevel_0 : decode cX12_nextLevel 0 = .ok (.iload_n 1, 1) := by decide +kernel
theorem dX12_nextLevel_1 : decode cX12_nextLevel 1 = .ok (.istore_n 3, 1) := by decide +kernel
theorem dX12_nextLevel_2 : decode cX12_nextLevel 2 = .ok (.iconst 0, 1) := by decide +kernel
theorem dX12_nextLevel_3 : decode cX12_nextLevel 3 = .ok (.istore 4, 2) := by decide +kernel
theorem dX12_nextLevel_5 : decode cX12_nextLevel 5 = .ok (.iload 4, 2) := by decide +kernel
theorem dX12_nextLevel_7 : decode cX12_nextLevel 7 = .ok (.aload_n 0, 1) := by decide +kernel
theorem dX12_nextLevel_8 : decode cX12_nextLevel 8 = .ok (.getfield 7, 3) := by decide +kernel
theorem dX12_nextLevel_11 : decode cX12_nextLevel 11 = .ok (.sipush 172, 3) := by decide +kernel
theorem dX12_nextLevel_14 : decode cX12_nextLevel 14 = .ok (.iaload, 1) := by decide +kernel
theorem dX12_nextLevel_15 : decode cX12_nextLevel 15 = .ok (.if_icmp .ge 40, 3) := by decide +kernel
theorem dX12_nextLevel_18 : decode cX12_nextLevel 18 = .ok (.iload_n 3, 1) := by decide +kernel
theorem dX12_nextLevel_19 : decode cX12_nextLevel 19 = .ok (.aload_n 0, 1) := by decide +kernel
theorem dX12_nextLevel_20 : decode cX12_nextLevel 20 = .ok (.iload_n 1, 1) := by decide +kernel
theorem dX12_nextLevel_21 : decode cX12_nextLevel 21 = .ok (.iload 4, 2) := by decide +kernel
theorem dX12_nextLevel_23 : decode cX12_nextLevel 23 = .ok (.invokevirtual 165, 3) := by decide +kernel
theorem dX12_nextLevel_26 : decode cX12_nextLevel 26 = .ok (.ifCond .eq 20, 3) := by decide +kernel
theorem dX12_nextLevel_29 : decode cX12_nextLevel 29 = .ok (.aload_n 0, 1) := by decide +kernel
theorem dX12_nextLevel_30 : decode cX12_nextLevel 30 = .ok (.getfield 7, 3) := by decide +kernel
theorem dX12_nextLevel_33 : decode cX12_nextLevel 33 = .ok (.bipush 24, 2) := by decide +kernel
theorem dX12_nextLevel_35 : decode cX12_nextLevel 35 = .ok (.iload 4, 2) := by decide +kernel
theorem dX12_nextLevel_37 : decode cX12_nextLevel 37 = .ok (.iadd, 1) := by decide +kernel
theorem dX12_nextLevel_38 : decode cX12_nextLevel 38 = .ok (.iaload, 1) := by decide +kernel
theorem dX12_nextLevel_39 : decode cX12_nextLevel 39 = .ok (.iload_n 2, 1) := by decide +kernel
theorem dX12_nextLevel_40 : decode cX12_nextLevel 40 = .ok (.iconst (-1), 1) := by decide +kernel
theorem dX12_nextLevel_41 : decode cX12_nextLevel 41 = .ok (.ixor, 1) := by decide +kernel
theorem dX12_nextLevel_42 : decode cX12_nextLevel 42 = .ok (.iand, 1) := by decide +kernel
theorem dX12_nextLevel_43 : decode cX12_nextLevel 43 = .ok (.goto 4, 3) := by decide +kernel
theorem dX12_nextLevel_46 : decode cX12_nextLevel 46 = .ok (.iconst 0, 1) := by decide +kernel
theorem dX12_nextLevel_47 : decode cX12_nextLevel 47 = .ok (.ior, 1) := by decide +kernel
theorem dX12_nextLevel_48 : decode cX12_nextLevel 48 = .ok (.istore_n 3, 1) := by decide +kernel
theorem dX12_nextLevel_49 : decode cX12_nextLevel 49 = .ok (.iinc 4 1, 3) := by decide +kernel
theorem dX12_nextLevel_52 : decode cX12_nextLevel 52 = .ok (.goto (-47), 3) := by decide +kernel
theorem dX12_nextLevel_55 : decode cX12_nextLevel 55 = .ok (.iload_n 3, 1) := by decide +kernel
theorem dX12_nextLevel_56 : decode cX12_nextLevel 56 = .ok (.ireturn, 1) := by decide +kernel
theorem dX12_lastLevel_0 : decode cX12_lastLevel 0 = .ok (.iload_n 1, 1) := by decide +kernel
theorem dX12_lastLevel_1 : decode cX12_lastLevel 1 = .ok (.iload_n 2, 1) := by decide +kernel
theorem dX12_lastLevel_2 : decode cX12_lastLevel 2 = .ok (.iconst (-1), 1) := by decide +kernel
theorem dX12_lastLevel_3 : decode cX12_lastLevel 3 = .ok (.ixor, 1) := by decide +kernel
theorem dX12_lastLevel_4 : decode cX12_lastLevel 4 = .ok (.iand, 1) := by decide +kernel
theorem dX12_lastLevel_5 : decode cX12_lastLevel 5 = .ok (.istore_n 3, 1) := by decide +kernel
theorem dX12_lastLevel_6 : decode cX12_lastLevel 6 = .ok (.aload_n 0, 1) := by decide +kernel
theorem dX12_lastLevel_7 : decode cX12_lastLevel 7 = .ok (.iload_n 3, 1) := by decide +kernel
theorem dX12_lastLevel_8 : decode cX12_lastLevel 8 = .ok (.iload_n 2, 1) := by decide +kernel
theorem dX12_lastLevel_9 : decode cX12_lastLevel 9 = .ok (.invokevirtual 171, 3) := by decide +kernel
theorem dX12_lastLevel_12 : decode cX12_lastLevel 12 = .ok (.istore 4, 2) := by decide +kernel
theorem dX12_lastLevel_14 : decode cX12_lastLevel 14 = .ok (.iload 4, 2) := by decide +kernel
theorem dX12_lastLevel_16 : decode cX12_lastLevel 16 = .ok (.iload_n 3, 1) := by decide +kernel
theorem dX12_lastLevel_17 : decode cX12_lastLevel 17 = .ok (.if_icmp .eq 17, 3) := by decide +kernel
theorem dX12_lastLevel_20 : decode cX12_lastLevel 20 = .ok (.iload 4, 2) := by decide +kernel
theorem dX12_lastLevel_22 : decode cX12_lastLevel 22 = .ok (.istore_n 3, 1) := by decide +kernel
theorem dX12_lastLevel_23 : decode cX12_lastLevel 23 = .ok (.aload_n 0, 1) := by decide +kernel
theorem dX12_lastLevel_24 : decode cX12_lastLevel 24 = .ok (.iload_n 3, 1) := by decide +kernel
theorem dX12_lastLevel_25 : decode cX12_lastLevel 25 = .ok (.iload_n 2, 1) := by decide +kernel
theorem dX12_lastLevel_26 : decode cX12_lastLevel 26 = .ok (.invokevirtual 171, 3) := by decide +kernel
theorem dX12_lastLevel_29 : decode cX12_lastLevel 29 = .ok (.istore 4, 2) := by decide +kernel
theorem dX12_lastLevel_31 : decode cX12_lastLevel 31 = .ok (.goto (-17), 3) := by decide +kernel
theorem dX12_lastLevel_34 : decode cX12_lastLevel 34 = .ok (.iload_n 3, 1) := by decide +kernel
theorem dX12_lastLevel_35 : decode cX12_lastLevel 35 = .ok (.ireturn, 1) := by decide +kernel
theorem dX12_level_0 : decode cX12_level 0 = .ok (.iload_n 1, 1) := by decide +kernel
theorem dX12_level_1 : decode cX12_level 1 = .ok (.invokestatic 91, 3) := by decide +kernel
theorem dX12_level_4 : decode cX12_level 4 = .ok (.ifCond .eq 13, 3) := by decide +kernel
theorem dX12_level_7 : decode cX12_level 7 = .ok (.iload_n 2, 1) := by decide +kernel
theorem dX12_level_8 : decode cX12_level 8 = .ok (.iconst 0, 1) := by decide +kernel
theorem dX12_level_9 : decode cX12_level 9 = .ok (.bipush 30, 2) := by decide +kernel
theorem dX12_level_11 : decode cX12_level 11 = .ok (.invokestatic 67, 3) := by decide +kernel
theorem dX12_level_14 : decode cX12_level 14 = .ok (.ifCond .ne 10, 3) := by decide +kernel
theorem dX12_level_17 : decode cX12_level 17 = .ok (.aload_n 0, 1) := by decide +kernel
theorem dX12_level_18 : decode cX12_level 18 = .ok (.bipush (-6), 2) := by decide +kernel
theorem dX12_level_20 : decode cX12_level 20 = .ok (.invokevirtual 75, 3) := by decide +kernel
theorem dX12_level_23 : decode cX12_level 23 = .ok (.ireturn, 1) := by decide +kernel
theorem dX12_level_24 : decode cX12_level 24 = .ok (.iload_n 1, 1) := by decide +kernel
theorem dX12_level_25 : decode cX12_level 25 = .ok (.istore_n 3, 1) := by decide +kernel
theorem dX12_level_26 : decode cX12_level 26 = .ok (.iconst 0, 1) := by decide +kernel
theorem dX12_level_27 : decode cX12_level 27 = .ok (.istore 4, 2) := by decide +kernel
theorem dX12_level_29 : decode cX12_level 29 = .ok (.iload 4, 2) := by decide +kernel
theorem dX12_level_31 : decode cX12_level 31 = .ok (.iload_n 2, 1) := by decide +kernel
theorem dX12_level_32 : decode cX12_level 32 = .ok (.if_icmp .ge 16, 3) := by decide +kernel
theorem dX12_level_35 : decode cX12_level 35 = .ok (.aload_n 0, 1) := by decide +kernel
theorem dX12_level_36 : decode cX12_level 36 = .ok (.iload_n 3, 1) := by decide +kernel
theorem dX12_level_37 : decode cX12_level 37 = .ok (.iconst 0, 1) := by decide +kernel
theorem dX12_level_38 : decode cX12_level 38 = .ok (.invokevirtual 171, 3) := by decide +kernel
theorem dX12_level_41 : decode cX12_level 41 = .ok (.istore_n 3, 1) := by decide +kernel
theorem dX12_level_42 : decode cX12_level 42 = .ok (.iinc 4 1, 3) := by decide +kernel
theorem dX12_level_45 : decode cX12_level 45 = .ok (.goto (-16), 3) := by decide +kernel
theorem dX12_level_48 : decode cX12_level 48 = .ok (.iload_n 3, 1) := by decide +kernel
theorem dX12_level_49 : decode cX12_level 49 = .ok (.ireturn, 1) := by decide +kernel
theorem dX12_firstWith_0 : decode cX12_firstWith 0 = .ok (.iload_n 1, 1) := by decide +kernel
theorem dX12_firstWith_1 : decode cX12_firstWith 1 = .ok (.istore_n 3, 1) := by decide +kernel
theorem dX12_firstWith_2 : decode cX12_firstWith 2 = .ok (.iconst 0, 1) := by decide +kernel
theorem dX12_firstWith_3 : decode cX12_firstWith 3 = .ok (.istore 4, 2) := by decide +kernel
theorem dX12_firstWith_5 : decode cX12_firstWith 5 = .ok (.iload 4, 2) := by decide +kernel
theorem dX12_firstWith_7 : decode cX12_firstWith 7 = .ok (.bipush 30, 2) := by decide +kernel
theorem dX12_firstWith_9 : decode cX12_firstWith 9 = .ok (.if_icmp .gt 27, 3) := by decide +kernel
theorem dX12_firstWith_12 : decode cX12_firstWith 12 = .ok (.iload_n 3, 1) := by decide +kernel
theorem dX12_firstWith_13 : decode cX12_firstWith 13 = .ok (.iload_n 2, 1) := by decide +kernel
theorem dX12_firstWith_14 : decode cX12_firstWith 14 = .ok (.invokestatic 161, 3) := by decide +kernel
theorem dX12_firstWith_17 : decode cX12_firstWith 17 = .ok (.ifCond .eq 6, 3) := by decide +kernel
theorem dX12_firstWith_20 : decode cX12_firstWith 20 = .ok (.iload 4, 2) := by decide +kernel
theorem dX12_firstWith_22 : decode cX12_firstWith 22 = .ok (.ireturn, 1) := by decide +kernel
theorem dX12_firstWith_23 : decode cX12_firstWith 23 = .ok (.aload_n 0, 1) := by decide +kernel
theorem dX12_firstWith_24 : decode cX12_firstWith 24 = .ok (.iload_n 3, 1) := by decide +kernel
theorem dX12_firstWith_25 : decode cX12_firstWith 25 = .ok (.iconst 0, 1) := by decide +kernel
theorem dX12_firstWith_26 : decode cX12_firstWith 26 = .ok (.invokevirtual 171, 3) := by decide +kernel
theorem dX12_firstWith_29 : decode cX12_firstWith 29 = .ok (.istore_n 3, 1) := by decide +kernel
theorem dX12_firstWith_30 : decode cX12_firstWith 30 = .ok (.iinc 4 1, 3) := by decide +kernel
theorem dX12_firstWith_33 : decode cX12_firstWith 33 = .ok (.goto (-28), 3) := by decide +kernel
theorem dX12_firstWith_36 : decode cX12_firstWith 36 = .ok (.iconst (-1), 1) := by decide +kernel
theorem dX12_firstWith_37 : decode cX12_firstWith 37 = .ok (.ireturn, 1) := by decide +kernel
theorem dX12_first_0 : decode cX12_first 0 = .ok (.iload_n 2, 1) := by decide +kernel
theorem dX12_first_1 : decode cX12_first 1 = .ok (.invokestatic 174, 3) := by decide +kernel
theorem dX12_first_4 : decode cX12_first 4 = .ok (.ifCond .ne 9, 3) := by decide +kernel
theorem dX12_first_7 : decode cX12_first 7 = .ok (.aload_n 0, 1) := by decide +kernel
theorem dX12_first_8 : decode cX12_first 8 = .ok (.iconst (-1), 1) := by decide +kernel
theorem dX12_first_9 : decode cX12_first 9 = .ok (.invokevirtual 177, 3) := by decide +kernel
theorem dX12_first_12 : decode cX12_first 12 = .ok (.ireturn, 1) := by decide +kernel
theorem dX12_first_13 : decode cX12_first 13 = .ok (.iload_n 1, 1) := by decide +kernel
theorem dX12_first_14 : decode cX12_first 14 = .ok (.invokestatic 91, 3) := by decide +kernel
theorem dX12_first_17 : decode cX12_first 17 = .ok (.ifCond .eq 14, 3) := by decide +kernel
theorem dX12_first_20 : decode cX12_first 20 = .ok (.aload_n 0, 1) := by decide +kernel
theorem dX12_first_21 : decode cX12_first 21 = .ok (.iload_n 1, 1) := by decide +kernel
theorem dX12_first_22 : decode cX12_first 22 = .ok (.iconst 1, 1) := by decide +kernel
theorem dX12_first_23 : decode cX12_first 23 = .ok (.iload_n 2, 1) := by decide +kernel
theorem dX12_first_24 : decode cX12_first 24 = .ok (.ishl, 1) := by decide +kernel
theorem dX12_first_25 : decode cX12_first 25 = .ok (.invokevirtual 180, 3) := by decide +kernel
theorem dX12_first_28 : decode cX12_first 28 = .ok (.goto 9, 3) := by decide +kernel
theorem dX12_first_31 : decode cX12_first 31 = .ok (.aload_n 0, 1) := by decide +kernel
theorem dX12_first_32 : decode cX12_first 32 = .ok (.bipush (-6), 2) := by decide +kernel
theorem dX12_first_34 : decode cX12_first 34 = .ok (.invokevirtual 177, 3) := by decide +kernel
theorem dX12_first_37 : decode cX12_first 37 = .ok (.ireturn, 1) := by decide +kernel
theorem dX12_firstOf_0 : decode cX12_firstOf 0 = .ok (.aload_n 0, 1) := by decide +kernel
theorem dX12_firstOf_1 : decode cX12_firstOf 1 = .ok (.iload_n 2, 1) := by decide +kernel
theorem dX12_firstOf_2 : decode cX12_firstOf 2 = .ok (.invokevirtual 85, 3) := by decide +kernel
theorem dX12_firstOf_5 : decode cX12_firstOf 5 = .ok (.ifCond .ne 9, 3) := by decide +kernel
theorem dX12_firstOf_8 : decode cX12_firstOf 8 = .ok (.aload_n 0, 1) := by decide +kernel
theorem dX12_firstOf_9 : decode cX12_firstOf 9 = .ok (.iconst (-1), 1) := by decide +kernel
theorem dX12_firstOf_10 : decode cX12_firstOf 10 = .ok (.invokevirtual 177, 3) := by decide +kernel
theorem dX12_firstOf_13 : decode cX12_firstOf 13 = .ok (.ireturn, 1) := by decide +kernel
theorem dX12_firstOf_14 : decode cX12_firstOf 14 = .ok (.iload_n 1, 1) := by decide +kernel
theorem dX12_firstOf_15 : decode cX12_firstOf 15 = .ok (.invokestatic 91, 3) := by decide +kernel
theorem dX12_firstOf_18 : decode cX12_firstOf 18 = .ok (.ifCond .eq 19, 3) := by decide +kernel
theorem dX12_firstOf_21 : decode cX12_firstOf 21 = .ok (.aload_n 0, 1) := by decide +kernel
theorem dX12_firstOf_22 : decode cX12_firstOf 22 = .ok (.iload_n 1, 1) := by decide +kernel
theorem dX12_firstOf_23 : decode cX12_firstOf 23 = .ok (.aload_n 0, 1) := by decide +kernel
theorem dX12_firstOf_24 : decode cX12_firstOf 24 = .ok (.getfield 7, 3) := by decide +kernel
theorem dX12_firstOf_27 : decode cX12_firstOf 27 = .ok (.iconst 0, 1) := by decide +kernel
theorem dX12_firstOf_28 : decode cX12_firstOf 28 = .ok (.iload_n 2, 1) := by decide +kernel
theorem dX12_firstOf_29 : decode cX12_firstOf 29 = .ok (.iadd, 1) := by decide +kernel
theorem dX12_firstOf_30 : decode cX12_firstOf 30 = .ok (.iaload, 1) := by decide +kernel
theorem dX12_firstOf_31 : decode cX12_firstOf 31 = .ok (.invokevirtual 180, 3) := by decide +kernel
theorem dX12_firstOf_34 : decode cX12_firstOf 34 = .ok (.goto 9, 3) := by decide +kernel
theorem dX12_firstOf_37 : decode cX12_firstOf 37 = .ok (.aload_n 0, 1) := by decide +kernel
theorem dX12_firstOf_38 : decode cX12_firstOf 38 = .ok (.bipush (-6), 2) := by decide +kernel
theorem dX12_firstOf_40 : decode cX12_firstOf 40 = .ok (.invokevirtual 177, 3) := by decide +kernel
theorem dX12_firstOf_43 : decode cX12_firstOf 43 = .ok (.ireturn, 1) := by decide +kernel
theorem dX12_capped_0 : decode cX12_capped 0 = .ok (.iload_n 0, 1) := by decide +kernel
theorem dX12_capped_1 : decode cX12_capped 1 = .ok (.ldc 183, 2) := by decide +kernel
theorem dX12_capped_3 : decode cX12_capped 3 = .ok (.if_icmp .lt 8, 3) := by decide +kernel
theorem dX12_capped_6 : decode cX12_capped 6 = .ok (.ldc 183, 2) := by decide +kernel
theorem dX12_capped_8 : decode cX12_capped 8 = .ok (.goto 15, 3) := by decide +kernel
theorem dX12_capped_11 : decode cX12_capped 11 = .ok (.iload_n 0, 1) := by decide +kernel
theorem dX12_capped_12 : decode cX12_capped 12 = .ok (.ldc 184, 2) := by decide +kernel
theorem dX12_capped_14 : decode cX12_capped 14 = .ok (.if_icmp .le 8, 3) := by decide +kernel
theorem dX12_capped_17 : decode cX12_capped 17 = .ok (.ldc 184, 2) := by decide +kernel
theorem dX12_capped_19 : decode cX12_capped 19 = .ok (.goto 4, 3) := by decide +kernel
theorem dX12_capped_22 : decode cX12_capped 22 = .ok (.iload_n 0, 1) := by decide +kernel
theorem dX12_capped_23 : decode cX12_capped 23 = .ok (.ireturn, 1) := by decide +kernel
theorem dX12_valueOf_0 : decode cX12_valueOf 0 = .ok (.iconst 0, 1) := by decide +kernel
theorem dX12_valueOf_1 : decode cX12_valueOf 1 = .ok (.istore_n 3, 1) := by decide +kernel
theorem dX12_valueOf_2 : decode cX12_valueOf 2 = .ok (.iconst 0, 1) := by decide +kernel
theorem dX12_valueOf_3 : decode cX12_valueOf 3 = .ok (.istore 4, 2) := by decide +kernel
theorem dX12_valueOf_5 : decode cX12_valueOf 5 = .ok (.iload 4, 2) := by decide +kernel
theorem dX12_valueOf_7 : decode cX12_valueOf 7 = .ok (.bipush 30, 2) := by decide +kernel
theorem dX12_valueOf_9 : decode cX12_valueOf 9 = .ok (.if_icmp .ge 85, 3) := by decide +kernel
theorem dX12_valueOf_12 : decode cX12_valueOf 12 = .ok (.iload_n 1, 1) := by decide +kernel
theorem dX12_valueOf_13 : decode cX12_valueOf 13 = .ok (.iload 4, 2) := by decide +kernel
theorem dX12_valueOf_15 : decode cX12_valueOf 15 = .ok (.ishr, 1) := by decide +kernel
theorem dX12_valueOf_16 : decode cX12_valueOf 16 = .ok (.iconst 1, 1) := by decide +kernel
theorem dX12_valueOf_17 : decode cX12_valueOf 17 = .ok (.iand, 1) := by decide +kernel
theorem dX12_valueOf_18 : decode cX12_valueOf 18 = .ok (.iconst 1, 1) := by decide +kernel
theorem dX12_valueOf_19 : decode cX12_valueOf 19 = .ok (.if_icmp .ne 69, 3) := by decide +kernel
theorem dX12_valueOf_22 : decode cX12_valueOf 22 = .ok (.aload_n 0, 1) := by decide +kernel
theorem dX12_valueOf_23 : decode cX12_valueOf 23 = .ok (.getfield 36, 3) := by decide +kernel
theorem dX12_valueOf_26 : decode cX12_valueOf 26 = .ok (.iload 4, 2) := by decide +kernel
theorem dX12_valueOf_28 : decode cX12_valueOf 28 = .ok (.iaload, 1) := by decide +kernel
theorem dX12_valueOf_29 : decode cX12_valueOf 29 = .ok (.ldc 183, 2) := by decide +kernel
theorem dX12_valueOf_31 : decode cX12_valueOf 31 = .ok (.if_icmp .eq 9, 3) := by decide +kernel
theorem dX12_valueOf_34 : decode cX12_valueOf 34 = .ok (.iload_n 3, 1) := by decide +kernel
theorem dX12_valueOf_35 : decode cX12_valueOf 35 = .ok (.ldc 183, 2) := by decide +kernel
theorem dX12_valueOf_37 : decode cX12_valueOf 37 = .ok (.if_icmp .ne 9, 3) := by decide +kernel
theorem dX12_valueOf_40 : decode cX12_valueOf 40 = .ok (.ldc 183, 2) := by decide +kernel
theorem dX12_valueOf_42 : decode cX12_valueOf 42 = .ok (.istore_n 3, 1) := by decide +kernel
theorem dX12_valueOf_43 : decode cX12_valueOf 43 = .ok (.goto 45, 3) := by decide +kernel
theorem dX12_valueOf_46 : decode cX12_valueOf 46 = .ok (.iload_n 2, 1) := by decide +kernel
theorem dX12_valueOf_47 : decode cX12_valueOf 47 = .ok (.ifCond .eq 18, 3) := by decide +kernel
theorem dX12_valueOf_50 : decode cX12_valueOf 50 = .ok (.iload_n 3, 1) := by decide +kernel
theorem dX12_valueOf_51 : decode cX12_valueOf 51 = .ok (.aload_n 0, 1) := by decide +kernel
theorem dX12_valueOf_52 : decode cX12_valueOf 52 = .ok (.getfield 36, 3) := by decide +kernel
theorem dX12_valueOf_55 : decode cX12_valueOf 55 = .ok (.iload 4, 2) := by decide +kernel
theorem dX12_valueOf_57 : decode cX12_valueOf 57 = .ok (.iaload, 1) := by decide +kernel
theorem dX12_valueOf_58 : decode cX12_valueOf 58 = .ok (.iadd, 1) := by decide +kernel
theorem dX12_valueOf_59 : decode cX12_valueOf 59 = .ok (.invokestatic 185, 3) := by decide +kernel
theorem dX12_valueOf_62 : decode cX12_valueOf 62 = .ok (.goto 25, 3) := by decide +kernel
theorem dX12_valueOf_65 : decode cX12_valueOf 65 = .ok (.aload_n 0, 1) := by decide +kernel
theorem dX12_valueOf_66 : decode cX12_valueOf 66 = .ok (.getfield 36, 3) := by decide +kernel
theorem dX12_valueOf_69 : decode cX12_valueOf 69 = .ok (.iload 4, 2) := by decide +kernel
theorem dX12_valueOf_71 : decode cX12_valueOf 71 = .ok (.iaload, 1) := by decide +kernel
theorem dX12_valueOf_72 : decode cX12_valueOf 72 = .ok (.iload_n 3, 1) := by decide +kernel
theorem dX12_valueOf_73 : decode cX12_valueOf 73 = .ok (.if_icmp .le 13, 3) := by decide +kernel
theorem dX12_valueOf_76 : decode cX12_valueOf 76 = .ok (.aload_n 0, 1) := by decide +kernel
theorem dX12_valueOf_77 : decode cX12_valueOf 77 = .ok (.getfield 36, 3) := by decide +kernel
theorem dX12_valueOf_80 : decode cX12_valueOf 80 = .ok (.iload 4, 2) := by decide +kernel
theorem dX12_valueOf_82 : decode cX12_valueOf 82 = .ok (.iaload, 1) := by decide +kernel
theorem dX12_valueOf_83 : decode cX12_valueOf 83 = .ok (.goto 4, 3) := by decide +kernel
theorem dX12_valueOf_86 : decode cX12_valueOf 86 = .ok (.iload_n 3, 1) := by decide +kernel
theorem dX12_valueOf_87 : decode cX12_valueOf 87 = .ok (.istore_n 3, 1) := by decide +kernel
theorem dX12_valueOf_88 : decode cX12_valueOf 88 = .ok (.iinc 4 1, 3) := by decide +kernel
theorem dX12_valueOf_91 : decode cX12_valueOf 91 = .ok (.goto (-86), 3) := by decide +kernel
theorem dX12_valueOf_94 : decode cX12_valueOf 94 = .ok (.iload_n 3, 1) := by decide +kernel
theorem dX12_valueOf_95 : decode cX12_valueOf 95 = .ok (.ireturn, 1) := by decide +kernel
theorem dX12_valueBy_0 : decode cX12_valueBy 0 = .ok (.aload_n 0, 1) := by decide +kernel
theorem dX12_valueBy_1 : decode cX12_valueBy 1 = .ok (.aload_n 0, 1) := by decide +kernel
theorem dX12_valueBy_2 : decode cX12_valueBy 2 = .ok (.getfield 7, 3) := by decide +kernel
theorem dX12_valueBy_5 : decode cX12_valueBy 5 = .ok (.iconst 0, 1) := by decide +kernel
theorem dX12_valueBy_6 : decode cX12_valueBy 6 = .ok (.iload_n 1, 1) := by decide +kernel
theorem dX12_valueBy_7 : decode cX12_valueBy 7 = .ok (.iadd, 1) := by decide +kernel
theorem dX12_valueBy_8 : decode cX12_valueBy 8 = .ok (.iaload, 1) := by decide +kernel
theorem dX12_valueBy_9 : decode cX12_valueBy 9 = .ok (.iload_n 2, 1) := by decide +kernel
theorem dX12_valueBy_10 : decode cX12_valueBy 10 = .ok (.invokevirtual 188, 3) := by decide +kernel
theorem dX12_valueBy_13 : decode cX12_valueBy 13 = .ok (.istore_n 3, 1) := by decide +kernel
theorem dX12_valueBy_14 : decode cX12_valueBy 14 = .ok (.iload_n 3, 1) := by decide +kernel
theorem dX12_valueBy_15 : decode cX12_valueBy 15 = .ok (.ldc 183, 2) := by decide +kernel
theorem dX12_valueBy_17 : decode cX12_valueBy 17 = .ok (.if_icmp .ne 8, 3) := by decide +kernel
theorem dX12_valueBy_20 : decode cX12_valueBy 20 = .ok (.ldc 183, 2) := by decide +kernel
theorem dX12_valueBy_22 : decode cX12_valueBy 22 = .ok (.goto 17, 3) := by decide +kernel
theorem dX12_valueBy_25 : decode cX12_valueBy 25 = .ok (.iload_n 3, 1) := by decide +kernel
theorem dX12_valueBy_26 : decode cX12_valueBy 26 = .ok (.aload_n 0, 1) := by decide +kernel
theorem dX12_valueBy_27 : decode cX12_valueBy 27 = .ok (.getfield 7, 3) := by decide +kernel
theorem dX12_valueBy_30 : decode cX12_valueBy 30 = .ok (.bipush 72, 2) := by decide +kernel
theorem dX12_valueBy_32 : decode cX12_valueBy 32 = .ok (.iload_n 1, 1) := by decide +kernel
theorem dX12_valueBy_33 : decode cX12_valueBy 33 = .ok (.iadd, 1) := by decide +kernel
theorem dX12_valueBy_34 : decode cX12_valueBy 34 = .ok (.iaload, 1) := by decide +kernel
theorem dX12_valueBy_35 : decode cX12_valueBy 35 = .ok (.iadd, 1) := by decide +kernel
theorem dX12_valueBy_36 : decode cX12_valueBy 36 = .ok (.invokestatic 185, 3) := by decide +kernel
theorem dX12_valueBy_39 : decode cX12_valueBy 39 = .ok (.ireturn, 1) := by decide +kernel
theorem dX12_values_0 : decode cX12_values 0 = .ok (.iconst 0, 1) := by decide +kernel
theorem dX12_values_1 : decode cX12_values 1 = .ok (.istore_n 3, 1) := by decide +kernel
theorem dX12_values_2 : decode cX12_values 2 = .ok (.iload_n 3, 1) := by decide +kernel
theorem dX12_values_3 : decode cX12_values 3 = .ok (.bipush 30, 2) := by decide +kernel
theorem dX12_values_5 : decode cX12_values 5 = .ok (.if_icmp .ge 30, 3) := by decide +kernel
theorem dX12_values_8 : decode cX12_values 8 = .ok (.aload_n 0, 1) := by decide +kernel
theorem dX12_values_9 : decode cX12_values 9 = .ok (.getfield 36, 3) := by decide +kernel
theorem dX12_values_12 : decode cX12_values 12 = .ok (.iload_n 3, 1) := by decide +kernel
theorem dX12_values_13 : decode cX12_values 13 = .ok (.iload_n 1, 1) := by decide +kernel
theorem dX12_values_14 : decode cX12_values 14 = .ok (.iload_n 3, 1) := by decide +kernel
theorem dX12_values_15 : decode cX12_values 15 = .ok (.ishr, 1) := by decide +kernel
theorem dX12_values_16 : decode cX12_values 16 = .ok (.iconst 1, 1) := by decide +kernel
theorem dX12_values_17 : decode cX12_values 17 = .ok (.iand, 1) := by decide +kernel
theorem dX12_values_18 : decode cX12_values 18 = .ok (.iconst 1, 1) := by decide +kernel
theorem dX12_values_19 : decode cX12_values 19 = .ok (.if_icmp .ne 7, 3) := by decide +kernel
theorem dX12_values_22 : decode cX12_values 22 = .ok (.iconst 0, 1) := by decide +kernel
theorem dX12_values_23 : decode cX12_values 23 = .ok (.goto 5, 3) := by decide +kernel
theorem dX12_values_26 : decode cX12_values 26 = .ok (.ldc 183, 2) := by decide +kernel
theorem dX12_values_28 : decode cX12_values 28 = .ok (.iastore, 1) := by decide +kernel
theorem dX12_values_29 : decode cX12_values 29 = .ok (.iinc 3 1, 3) := by decide +kernel
theorem dX12_values_32 : decode cX12_values 32 = .ok (.goto (-30), 3) := by decide +kernel
theorem dX12_values_35 : decode cX12_values 35 = .ok (.iconst 1, 1) := by decide +kernel
theorem dX12_values_36 : decode cX12_values 36 = .ok (.istore_n 3, 1) := by decide +kernel
theorem dX12_values_37 : decode cX12_values 37 = .ok (.iload_n 3, 1) := by decide +kernel
theorem dX12_values_38 : decode cX12_values 38 = .ok (.ifCond .eq 132, 3) := by decide +kernel
theorem dX12_values_41 : decode cX12_values 41 = .ok (.iconst 0, 1) := by decide +kernel
theorem dX12_values_42 : decode cX12_values 42 = .ok (.istore_n 3, 1) := by decide +kernel
theorem dX12_values_43 : decode cX12_values 43 = .ok (.iconst 0, 1) := by decide +kernel
theorem dX12_values_44 : decode cX12_values 44 = .ok (.istore 4, 2) := by decide +kernel
theorem dX12_values_46 : decode cX12_values 46 = .ok (.iload 4, 2) := by decide +kernel
theorem dX12_values_48 : decode cX12_values 48 = .ok (.aload_n 0, 1) := by decide +kernel
theorem dX12_values_49 : decode cX12_values 49 = .ok (.getfield 7, 3) := by decide +kernel
theorem dX12_values_52 : decode cX12_values 52 = .ok (.sipush 172, 3) := by decide +kernel
theorem dX12_values_55 : decode cX12_values 55 = .ok (.iaload, 1) := by decide +kernel
theorem dX12_values_56 : decode cX12_values 56 = .ok (.if_icmp .ge 111, 3) := by decide +kernel
theorem dX12_values_59 : decode cX12_values 59 = .ok (.aload_n 0, 1) := by decide +kernel
theorem dX12_values_60 : decode cX12_values 60 = .ok (.iload 4, 2) := by decide +kernel
theorem dX12_values_62 : decode cX12_values 62 = .ok (.iload_n 2, 1) := by decide +kernel
theorem dX12_values_63 : decode cX12_values 63 = .ok (.invokevirtual 192, 3) := by decide +kernel
theorem dX12_values_66 : decode cX12_values 66 = .ok (.istore 5, 2) := by decide +kernel
theorem dX12_values_68 : decode cX12_values 68 = .ok (.iconst 0, 1) := by decide +kernel
theorem dX12_values_69 : decode cX12_values 69 = .ok (.istore 6, 2) := by decide +kernel
theorem dX12_values_71 : decode cX12_values 71 = .ok (.iload 6, 2) := by decide +kernel
theorem dX12_values_73 : decode cX12_values 73 = .ok (.bipush 30, 2) := by decide +kernel
theorem dX12_values_75 : decode cX12_values 75 = .ok (.if_icmp .ge 86, 3) := by decide +kernel
theorem dX12_values_78 : decode cX12_values 78 = .ok (.aload_n 0, 1) := by decide +kernel
theorem dX12_values_79 : decode cX12_values 79 = .ok (.getfield 7, 3) := by decide +kernel
theorem dX12_values_82 : decode cX12_values 82 = .ok (.bipush 24, 2) := by decide +kernel
theorem dX12_values_84 : decode cX12_values 84 = .ok (.iload 4, 2) := by decide +kernel
theorem dX12_values_86 : decode cX12_values 86 = .ok (.iadd, 1) := by decide +kernel
theorem dX12_values_87 : decode cX12_values 87 = .ok (.iaload, 1) := by decide +kernel
theorem dX12_values_88 : decode cX12_values 88 = .ok (.iload 6, 2) := by decide +kernel
theorem dX12_values_90 : decode cX12_values 90 = .ok (.ishr, 1) := by decide +kernel
theorem dX12_values_91 : decode cX12_values 91 = .ok (.iconst 1, 1) := by decide +kernel
theorem dX12_values_92 : decode cX12_values 92 = .ok (.iand, 1) := by decide +kernel
theorem dX12_values_93 : decode cX12_values 93 = .ok (.iconst 1, 1) := by decide +kernel
theorem dX12_values_94 : decode cX12_values 94 = .ok (.if_icmp .ne 19, 3) := by decide +kernel
theorem dX12_values_97 : decode cX12_values 97 = .ok (.iload 5, 2) := by decide +kernel
theorem dX12_values_99 : decode cX12_values 99 = .ok (.aload_n 0, 1) := by decide +kernel
theorem dX12_values_100 : decode cX12_values 100 = .ok (.getfield 36, 3) := by decide +kernel
theorem dX12_values_103 : decode cX12_values 103 = .ok (.iload 6, 2) := by decide +kernel
theorem dX12_values_105 : decode cX12_values 105 = .ok (.iaload, 1) := by decide +kernel
theorem dX12_values_106 : decode cX12_values 106 = .ok (.if_icmp .ge 7, 3) := by decide +kernel
theorem dX12_values_109 : decode cX12_values 109 = .ok (.iconst 1, 1) := by decide +kernel
theorem dX12_values_110 : decode cX12_values 110 = .ok (.goto 4, 3) := by decide +kernel
theorem dX12_values_113 : decode cX12_values 113 = .ok (.iconst 0, 1) := by decide +kernel
theorem dX12_values_114 : decode cX12_values 114 = .ok (.istore 7, 2) := by decide +kernel
theorem dX12_values_116 : decode cX12_values 116 = .ok (.aload_n 0, 1) := by decide +kernel
theorem dX12_values_117 : decode cX12_values 117 = .ok (.getfield 36, 3) := by decide +kernel
theorem dX12_values_120 : decode cX12_values 120 = .ok (.iload 6, 2) := by decide +kernel
theorem dX12_values_122 : decode cX12_values 122 = .ok (.iload 7, 2) := by decide +kernel
theorem dX12_values_124 : decode cX12_values 124 = .ok (.ifCond .eq 8, 3) := by decide +kernel
theorem dX12_values_127 : decode cX12_values 127 = .ok (.iload 5, 2) := by decide +kernel
theorem dX12_values_129 : decode cX12_values 129 = .ok (.goto 10, 3) := by decide +kernel
theorem dX12_values_132 : decode cX12_values 132 = .ok (.aload_n 0, 1) := by decide +kernel
theorem dX12_values_133 : decode cX12_values 133 = .ok (.getfield 36, 3) := by decide +kernel
theorem dX12_values_136 : decode cX12_values 136 = .ok (.iload 6, 2) := by decide +kernel
theorem dX12_values_138 : decode cX12_values 138 = .ok (.iaload, 1) := by decide +kernel
theorem dX12_values_139 : decode cX12_values 139 = .ok (.iastore, 1) := by decide +kernel
theorem dX12_values_140 : decode cX12_values 140 = .ok (.iload_n 3, 1) := by decide +kernel
theorem dX12_values_141 : decode cX12_values 141 = .ok (.ifCond .ne 8, 3) := by decide +kernel
theorem dX12_values_144 : decode cX12_values 144 = .ok (.iload 7, 2) := by decide +kernel
theorem dX12_values_146 : decode cX12_values 146 = .ok (.ifCond .eq 7, 3) := by decide +kernel
theorem dX12_values_149 : decode cX12_values 149 = .ok (.iconst 1, 1) := by decide +kernel
theorem dX12_values_150 : decode cX12_values 150 = .ok (.goto 4, 3) := by decide +kernel
theorem dX12_values_153 : decode cX12_values 153 = .ok (.iconst 0, 1) := by decide +kernel
theorem dX12_values_154 : decode cX12_values 154 = .ok (.istore_n 3, 1) := by decide +kernel
theorem dX12_values_155 : decode cX12_values 155 = .ok (.iinc 6 1, 3) := by decide +kernel
theorem dX12_values_158 : decode cX12_values 158 = .ok (.goto (-87), 3) := by decide +kernel
theorem dX12_values_161 : decode cX12_values 161 = .ok (.iinc 4 1, 3) := by decide +kernel
theorem dX12_values_164 : decode cX12_values 164 = .ok (.goto (-118), 3) := by decide +kernel
theorem dX12_values_167 : decode cX12_values 167 = .ok (.goto (-130), 3) := by decide +kernel
theorem dX12_values_170 : decode cX12_values 170 = .ok (.return_, 1) := by decide +kernel
theorem dX12_levels_0 : decode cX12_levels 0 = .ok (.iconst 0, 1) := by decide +kernel
theorem dX12_levels_1 : decode cX12_levels 1 = .ok (.istore_n 2, 1) := by decide +kernel
theorem dX12_levels_2 : decode cX12_levels 2 = .ok (.iload_n 2, 1) := by decide +kernel
theorem dX12_levels_3 : decode cX12_levels 3 = .ok (.bipush 30, 2) := by decide +kernel
theorem dX12_levels_5 : decode cX12_levels 5 = .ok (.if_icmp .ge 16, 3) := by decide +kernel
theorem dX12_levels_8 : decode cX12_levels 8 = .ok (.aload_n 0, 1) := by decide +kernel
theorem dX12_levels_9 : decode cX12_levels 9 = .ok (.getfield 39, 3) := by decide +kernel
theorem dX12_levels_12 : decode cX12_levels 12 = .ok (.iload_n 2, 1) := by decide +kernel
theorem dX12_levels_13 : decode cX12_levels 13 = .ok (.iconst (-1), 1) := by decide +kernel
theorem dX12_levels_14 : decode cX12_levels 14 = .ok (.iastore, 1) := by decide +kernel
theorem dX12_levels_15 : decode cX12_levels 15 = .ok (.iinc 2 1, 3) := by decide +kernel
theorem dX12_levels_18 : decode cX12_levels 18 = .ok (.goto (-16), 3) := by decide +kernel
theorem dX12_levels_21 : decode cX12_levels 21 = .ok (.iconst 0, 1) := by decide +kernel
theorem dX12_levels_22 : decode cX12_levels 22 = .ok (.istore_n 2, 1) := by decide +kernel
theorem dX12_levels_23 : decode cX12_levels 23 = .ok (.iload_n 2, 1) := by decide +kernel
theorem dX12_levels_24 : decode cX12_levels 24 = .ok (.bipush 24, 2) := by decide +kernel
theorem dX12_levels_26 : decode cX12_levels 26 = .ok (.if_icmp .ge 16, 3) := by decide +kernel
theorem dX12_levels_29 : decode cX12_levels 29 = .ok (.aload_n 0, 1) := by decide +kernel
theorem dX12_levels_30 : decode cX12_levels 30 = .ok (.getfield 42, 3) := by decide +kernel
theorem dX12_levels_33 : decode cX12_levels 33 = .ok (.iload_n 2, 1) := by decide +kernel
theorem dX12_levels_34 : decode cX12_levels 34 = .ok (.iconst (-1), 1) := by decide +kernel
theorem dX12_levels_35 : decode cX12_levels 35 = .ok (.iastore, 1) := by decide +kernel
theorem dX12_levels_36 : decode cX12_levels 36 = .ok (.iinc 2 1, 3) := by decide +kernel
theorem dX12_levels_39 : decode cX12_levels 39 = .ok (.goto (-16), 3) := by decide +kernel
theorem dX12_levels_42 : decode cX12_levels 42 = .ok (.iload_n 1, 1) := by decide +kernel
theorem dX12_levels_43 : decode cX12_levels 43 = .ok (.istore_n 2, 1) := by decide +kernel
theorem dX12_levels_44 : decode cX12_levels 44 = .ok (.iconst 0, 1) := by decide +kernel
theorem dX12_levels_45 : decode cX12_levels 45 = .ok (.istore_n 3, 1) := by decide +kernel
theorem dX12_levels_46 : decode cX12_levels 46 = .ok (.iload_n 3, 1) := by decide +kernel
theorem dX12_levels_47 : decode cX12_levels 47 = .ok (.bipush 30, 2) := by decide +kernel
theorem dX12_levels_49 : decode cX12_levels 49 = .ok (.if_icmp .gt 132, 3) := by decide +kernel
theorem dX12_levels_52 : decode cX12_levels 52 = .ok (.iconst 0, 1) := by decide +kernel
theorem dX12_levels_53 : decode cX12_levels 53 = .ok (.istore 4, 2) := by decide +kernel
theorem dX12_levels_55 : decode cX12_levels 55 = .ok (.iload 4, 2) := by decide +kernel
theorem dX12_levels_57 : decode cX12_levels 57 = .ok (.bipush 30, 2) := by decide +kernel
theorem dX12_levels_59 : decode cX12_levels 59 = .ok (.if_icmp .ge 48, 3) := by decide +kernel
theorem dX12_levels_62 : decode cX12_levels 62 = .ok (.aload_n 0, 1) := by decide +kernel
theorem dX12_levels_63 : decode cX12_levels 63 = .ok (.getfield 39, 3) := by decide +kernel
theorem dX12_levels_66 : decode cX12_levels 66 = .ok (.iload 4, 2) := by decide +kernel
theorem dX12_levels_68 : decode cX12_levels 68 = .ok (.aload_n 0, 1) := by decide +kernel
theorem dX12_levels_69 : decode cX12_levels 69 = .ok (.getfield 39, 3) := by decide +kernel
theorem dX12_levels_72 : decode cX12_levels 72 = .ok (.iload 4, 2) := by decide +kernel
theorem dX12_levels_74 : decode cX12_levels 74 = .ok (.iaload, 1) := by decide +kernel
theorem dX12_levels_75 : decode cX12_levels 75 = .ok (.iconst (-1), 1) := by decide +kernel
theorem dX12_levels_76 : decode cX12_levels 76 = .ok (.if_icmp .ne 17, 3) := by decide +kernel
theorem dX12_levels_79 : decode cX12_levels 79 = .ok (.iload_n 2, 1) := by decide +kernel
theorem dX12_levels_80 : decode cX12_levels 80 = .ok (.iload 4, 2) := by decide +kernel
theorem dX12_levels_82 : decode cX12_levels 82 = .ok (.ishr, 1) := by decide +kernel
theorem dX12_levels_83 : decode cX12_levels 83 = .ok (.iconst 1, 1) := by decide +kernel
theorem dX12_levels_84 : decode cX12_levels 84 = .ok (.iand, 1) := by decide +kernel
theorem dX12_levels_85 : decode cX12_levels 85 = .ok (.iconst 1, 1) := by decide +kernel
theorem dX12_levels_86 : decode cX12_levels 86 = .ok (.if_icmp .ne 7, 3) := by decide +kernel
theorem dX12_levels_89 : decode cX12_levels 89 = .ok (.iload_n 3, 1) := by decide +kernel
theorem dX12_levels_90 : decode cX12_levels 90 = .ok (.goto 10, 3) := by decide +kernel
theorem dX12_levels_93 : decode cX12_levels 93 = .ok (.aload_n 0, 1) := by decide +kernel
theorem dX12_levels_94 : decode cX12_levels 94 = .ok (.getfield 39, 3) := by decide +kernel
theorem dX12_levels_97 : decode cX12_levels 97 = .ok (.iload 4, 2) := by decide +kernel
theorem dX12_levels_99 : decode cX12_levels 99 = .ok (.iaload, 1) := by decide +kernel
theorem dX12_levels_100 : decode cX12_levels 100 = .ok (.iastore, 1) := by decide +kernel
theorem dX12_levels_101 : decode cX12_levels 101 = .ok (.iinc 4 1, 3) := by decide +kernel
theorem dX12_levels_104 : decode cX12_levels 104 = .ok (.goto (-49), 3) := by decide +kernel
theorem dX12_levels_107 : decode cX12_levels 107 = .ok (.iconst 0, 1) := by decide +kernel
theorem dX12_levels_108 : decode cX12_levels 108 = .ok (.istore 4, 2) := by decide +kernel
theorem dX12_levels_110 : decode cX12_levels 110 = .ok (.iload 4, 2) := by decide +kernel
theorem dX12_levels_112 : decode cX12_levels 112 = .ok (.aload_n 0, 1) := by decide +kernel
theorem dX12_levels_113 : decode cX12_levels 113 = .ok (.getfield 7, 3) := by decide +kernel
theorem dX12_levels_116 : decode cX12_levels 116 = .ok (.sipush 172, 3) := by decide +kernel
theorem dX12_levels_119 : decode cX12_levels 119 = .ok (.iaload, 1) := by decide +kernel
theorem dX12_levels_120 : decode cX12_levels 120 = .ok (.if_icmp .ge 48, 3) := by decide +kernel
theorem dX12_levels_123 : decode cX12_levels 123 = .ok (.aload_n 0, 1) := by decide +kernel
theorem dX12_levels_124 : decode cX12_levels 124 = .ok (.getfield 42, 3) := by decide +kernel
theorem dX12_levels_127 : decode cX12_levels 127 = .ok (.iload 4, 2) := by decide +kernel
theorem dX12_levels_129 : decode cX12_levels 129 = .ok (.aload_n 0, 1) := by decide +kernel
theorem dX12_levels_130 : decode cX12_levels 130 = .ok (.getfield 42, 3) := by decide +kernel
theorem dX12_levels_133 : decode cX12_levels 133 = .ok (.iload 4, 2) := by decide +kernel
theorem dX12_levels_135 : decode cX12_levels 135 = .ok (.iaload, 1) := by decide +kernel
theorem dX12_levels_136 : decode cX12_levels 136 = .ok (.iconst (-1), 1) := by decide +kernel
theorem dX12_levels_137 : decode cX12_levels 137 = .ok (.if_icmp .ne 17, 3) := by decide +kernel
theorem dX12_levels_140 : decode cX12_levels 140 = .ok (.aload_n 0, 1) := by decide +kernel
theorem dX12_levels_141 : decode cX12_levels 141 = .ok (.iload_n 2, 1) := by decide +kernel
theorem dX12_levels_142 : decode cX12_levels 142 = .ok (.iload 4, 2) := by decide +kernel
theorem dX12_levels_144 : decode cX12_levels 144 = .ok (.invokevirtual 165, 3) := by decide +kernel
theorem dX12_levels_147 : decode cX12_levels 147 = .ok (.ifCond .eq 7, 3) := by decide +kernel
theorem dX12_levels_150 : decode cX12_levels 150 = .ok (.iload_n 3, 1) := by decide +kernel
theorem dX12_levels_151 : decode cX12_levels 151 = .ok (.goto 10, 3) := by decide +kernel
theorem dX12_levels_154 : decode cX12_levels 154 = .ok (.aload_n 0, 1) := by decide +kernel
theorem dX12_levels_155 : decode cX12_levels 155 = .ok (.getfield 42, 3) := by decide +kernel
theorem dX12_levels_158 : decode cX12_levels 158 = .ok (.iload 4, 2) := by decide +kernel
theorem dX12_levels_160 : decode cX12_levels 160 = .ok (.iaload, 1) := by decide +kernel
theorem dX12_levels_161 : decode cX12_levels 161 = .ok (.iastore, 1) := by decide +kernel
theorem dX12_levels_162 : decode cX12_levels 162 = .ok (.iinc 4 1, 3) := by decide +kernel
theorem dX12_levels_165 : decode cX12_levels 165 = .ok (.goto (-55), 3) := by decide +kernel
theorem dX12_levels_168 : decode cX12_levels 168 = .ok (.aload_n 0, 1) := by decide +kernel
theorem dX12_levels_169 : decode cX12_levels 169 = .ok (.iload_n 2, 1) := by decide +kernel
theorem dX12_levels_170 : decode cX12_levels 170 = .ok (.iconst 0, 1) := by decide +kernel
theorem dX12_levels_171 : decode cX12_levels 171 = .ok (.invokevirtual 171, 3) := by decide +kernel
theorem dX12_levels_174 : decode cX12_levels 174 = .ok (.istore_n 2, 1) := by decide +kernel
theorem dX12_levels_175 : decode cX12_levels 175 = .ok (.iinc 3 1, 3) := by decide +kernel
theorem dX12_levels_178 : decode cX12_levels 178 = .ok (.goto (-132), 3) := by decide +kernel
theorem dX12_levels_181 : decode cX12_levels 181 = .ok (.return_, 1) := by decide +kernel
theorem dX12_countOf_0 : decode cX12_countOf 0 = .ok (.iconst 0, 1) := by decide +kernel
theorem dX12_countOf_1 : decode cX12_countOf 1 = .ok (.istore_n 2, 1) := by decide +kernel
theorem dX12_countOf_2 : decode cX12_countOf 2 = .ok (.iconst 0, 1) := by decide +kernel
theorem dX12_countOf_3 : decode cX12_countOf 3 = .ok (.istore_n 3, 1) := by decide +kernel
theorem dX12_countOf_4 : decode cX12_countOf 4 = .ok (.iload_n 3, 1) := by decide +kernel
theorem dX12_countOf_5 : decode cX12_countOf 5 = .ok (.bipush 30, 2) := by decide +kernel
theorem dX12_countOf_7 : decode cX12_countOf 7 = .ok (.if_icmp .ge 17, 3) := by decide +kernel
theorem dX12_countOf_10 : decode cX12_countOf 10 = .ok (.iload_n 2, 1) := by decide +kernel
theorem dX12_countOf_11 : decode cX12_countOf 11 = .ok (.iload_n 1, 1) := by decide +kernel
theorem dX12_countOf_12 : decode cX12_countOf 12 = .ok (.iload_n 3, 1) := by decide +kernel
theorem dX12_countOf_13 : decode cX12_countOf 13 = .ok (.ishr, 1) := by decide +kernel
theorem dX12_countOf_14 : decode cX12_countOf 14 = .ok (.iconst 1, 1) := by decide +kernel
theorem dX12_countOf_15 : decode cX12_countOf 15 = .ok (.iand, 1) := by decide +kernel
theorem dX12_countOf_16 : decode cX12_countOf 16 = .ok (.iadd, 1) := by decide +kernel
theorem dX12_countOf_17 : decode cX12_countOf 17 = .ok (.istore_n 2, 1) := by decide +kernel
theorem dX12_countOf_18 : decode cX12_countOf 18 = .ok (.iinc 3 1, 3) := by decide +kernel
theorem dX12_countOf_21 : decode cX12_countOf 21 = .ok (.goto (-17), 3) := by decide +kernel
theorem dX12_countOf_24 : decode cX12_countOf 24 = .ok (.iload_n 2, 1) := by decide +kernel
theorem dX12_countOf_25 : decode cX12_countOf 25 = .ok (.ireturn, 1) := by decide +kernel
theorem dX12_by_0 : decode cX12_by 0 = .ok (.iconst (-1), 1) := by decide +kernel
theorem dX12_by_1 : decode cX12_by 1 = .ok (.istore_n 2, 1) := by decide +kernel
theorem dX12_by_2 : decode cX12_by 2 = .ok (.iconst 0, 1) := by decide +kernel
theorem dX12_by_3 : decode cX12_by 3 = .ok (.istore_n 3, 1) := by decide +kernel
theorem dX12_by_4 : decode cX12_by 4 = .ok (.iload_n 3, 1) := by decide +kernel
theorem dX12_by_5 : decode cX12_by 5 = .ok (.aload_n 0, 1) := by decide +kernel
theorem dX12_by_6 : decode cX12_by 6 = .ok (.getfield 7, 3) := by decide +kernel
theorem dX12_by_9 : decode cX12_by 9 = .ok (.sipush 172, 3) := by decide +kernel
theorem dX12_by_12 : decode cX12_by 12 = .ok (.iaload, 1) := by decide +kernel
theorem dX12_by_13 : decode cX12_by 13 = .ok (.if_icmp .ge 105, 3) := by decide +kernel
theorem dX12_by_16 : decode cX12_by 16 = .ok (.aload_n 0, 1) := by decide +kernel
theorem dX12_by_17 : decode cX12_by 17 = .ok (.getfield 7, 3) := by decide +kernel
theorem dX12_by_20 : decode cX12_by 20 = .ok (.bipush 24, 2) := by decide +kernel
theorem dX12_by_22 : decode cX12_by 22 = .ok (.iload_n 3, 1) := by decide +kernel
theorem dX12_by_23 : decode cX12_by 23 = .ok (.iadd, 1) := by decide +kernel
theorem dX12_by_24 : decode cX12_by 24 = .ok (.iaload, 1) := by decide +kernel
theorem dX12_by_25 : decode cX12_by 25 = .ok (.iload_n 1, 1) := by decide +kernel
theorem dX12_by_26 : decode cX12_by 26 = .ok (.ishr, 1) := by decide +kernel
theorem dX12_by_27 : decode cX12_by 27 = .ok (.iconst 1, 1) := by decide +kernel
theorem dX12_by_28 : decode cX12_by 28 = .ok (.iand, 1) := by decide +kernel
theorem dX12_by_29 : decode cX12_by 29 = .ok (.iconst 1, 1) := by decide +kernel
theorem dX12_by_30 : decode cX12_by 30 = .ok (.if_icmp .ne 7, 3) := by decide +kernel
theorem dX12_by_33 : decode cX12_by 33 = .ok (.iconst 1, 1) := by decide +kernel
theorem dX12_by_34 : decode cX12_by 34 = .ok (.goto 4, 3) := by decide +kernel
theorem dX12_by_37 : decode cX12_by 37 = .ok (.iconst 0, 1) := by decide +kernel
theorem dX12_by_38 : decode cX12_by 38 = .ok (.istore 4, 2) := by decide +kernel
theorem dX12_by_40 : decode cX12_by 40 = .ok (.iload 4, 2) := by decide +kernel
theorem dX12_by_42 : decode cX12_by 42 = .ok (.ifCond .eq 12, 3) := by decide +kernel
theorem dX12_by_45 : decode cX12_by 45 = .ok (.aload_n 0, 1) := by decide +kernel
theorem dX12_by_46 : decode cX12_by 46 = .ok (.getfield 42, 3) := by decide +kernel
theorem dX12_by_49 : decode cX12_by 49 = .ok (.iload_n 3, 1) := by decide +kernel
theorem dX12_by_50 : decode cX12_by 50 = .ok (.iaload, 1) := by decide +kernel
theorem dX12_by_51 : decode cX12_by 51 = .ok (.goto 4, 3) := by decide +kernel
theorem dX12_by_54 : decode cX12_by 54 = .ok (.iconst (-1), 1) := by decide +kernel
theorem dX12_by_55 : decode cX12_by 55 = .ok (.istore 5, 2) := by decide +kernel
theorem dX12_by_57 : decode cX12_by 57 = .ok (.iload 5, 2) := by decide +kernel
theorem dX12_by_59 : decode cX12_by 59 = .ok (.iconst (-1), 1) := by decide +kernel
theorem dX12_by_60 : decode cX12_by 60 = .ok (.if_icmp .eq 38, 3) := by decide +kernel
theorem dX12_by_63 : decode cX12_by 63 = .ok (.iload 5, 2) := by decide +kernel
theorem dX12_by_65 : decode cX12_by 65 = .ok (.aload_n 0, 1) := by decide +kernel
theorem dX12_by_66 : decode cX12_by 66 = .ok (.getfield 39, 3) := by decide +kernel
theorem dX12_by_69 : decode cX12_by 69 = .ok (.iload_n 1, 1) := by decide +kernel
theorem dX12_by_70 : decode cX12_by 70 = .ok (.iaload, 1) := by decide +kernel
theorem dX12_by_71 : decode cX12_by 71 = .ok (.if_icmp .ge 27, 3) := by decide +kernel
theorem dX12_by_74 : decode cX12_by 74 = .ok (.iload_n 2, 1) := by decide +kernel
theorem dX12_by_75 : decode cX12_by 75 = .ok (.iconst (-1), 1) := by decide +kernel
theorem dX12_by_76 : decode cX12_by 76 = .ok (.if_icmp .eq 18, 3) := by decide +kernel
theorem dX12_by_79 : decode cX12_by 79 = .ok (.aload_n 0, 1) := by decide +kernel
theorem dX12_by_80 : decode cX12_by 80 = .ok (.iload_n 3, 1) := by decide +kernel
theorem dX12_by_81 : decode cX12_by 81 = .ok (.iconst 1, 1) := by decide +kernel
theorem dX12_by_82 : decode cX12_by 82 = .ok (.invokevirtual 192, 3) := by decide +kernel
theorem dX12_by_85 : decode cX12_by 85 = .ok (.aload_n 0, 1) := by decide +kernel
theorem dX12_by_86 : decode cX12_by 86 = .ok (.iload_n 2, 1) := by decide +kernel
theorem dX12_by_87 : decode cX12_by 87 = .ok (.iconst 1, 1) := by decide +kernel
theorem dX12_by_88 : decode cX12_by 88 = .ok (.invokevirtual 192, 3) := by decide +kernel
theorem dX12_by_91 : decode cX12_by 91 = .ok (.if_icmp .ge 7, 3) := by decide +kernel
theorem dX12_by_94 : decode cX12_by 94 = .ok (.iconst 1, 1) := by decide +kernel
theorem dX12_by_95 : decode cX12_by 95 = .ok (.goto 4, 3) := by decide +kernel
theorem dX12_by_98 : decode cX12_by 98 = .ok (.iconst 0, 1) := by decide +kernel
theorem dX12_by_99 : decode cX12_by 99 = .ok (.istore 6, 2) := by decide +kernel
theorem dX12_by_101 : decode cX12_by 101 = .ok (.iload 6, 2) := by decide +kernel
theorem dX12_by_103 : decode cX12_by 103 = .ok (.ifCond .eq 7, 3) := by decide +kernel
theorem dX12_by_106 : decode cX12_by 106 = .ok (.iload_n 3, 1) := by decide +kernel
theorem dX12_by_107 : decode cX12_by 107 = .ok (.goto 4, 3) := by decide +kernel
theorem dX12_by_110 : decode cX12_by 110 = .ok (.iload_n 2, 1) := by decide +kernel
theorem dX12_by_111 : decode cX12_by 111 = .ok (.istore_n 2, 1) := by decide +kernel
theorem dX12_by_112 : decode cX12_by 112 = .ok (.iinc 3 1, 3) := by decide +kernel
theorem dX12_by_115 : decode cX12_by 115 = .ok (.goto (-111), 3) := by decide +kernel
theorem dX12_by_118 : decode cX12_by 118 = .ok (.iload_n 2, 1) := by decide +kernel
theorem dX12_by_119 : decode cX12_by 119 = .ok (.ireturn, 1) := by decide +kernel
theorem dX12_relaxedFrom_0 : decode cX12_relaxedFrom 0 = .ok (.aload_n 0, 1) := by decide +kernel
theorem dX12_relaxedFrom_1 : decode cX12_relaxedFrom 1 = .ok (.aload_n 0, 1) := by decide +kernel
theorem dX12_relaxedFrom_2 : decode cX12_relaxedFrom 2 = .ok (.getfield 7, 3) := by decide +kernel
theorem dX12_relaxedFrom_5 : decode cX12_relaxedFrom 5 = .ok (.sipush 169, 3) := by decide +kernel
theorem dX12_relaxedFrom_8 : decode cX12_relaxedFrom 8 = .ok (.iaload, 1) := by decide +kernel
theorem dX12_relaxedFrom_9 : decode cX12_relaxedFrom 9 = .ok (.iload_n 1, 1) := by decide +kernel
theorem dX12_relaxedFrom_10 : decode cX12_relaxedFrom 10 = .ok (.iconst (-1), 1) := by decide +kernel
theorem dX12_relaxedFrom_11 : decode cX12_relaxedFrom 11 = .ok (.ixor, 1) := by decide +kernel
theorem dX12_relaxedFrom_12 : decode cX12_relaxedFrom 12 = .ok (.iand, 1) := by decide +kernel
theorem dX12_relaxedFrom_13 : decode cX12_relaxedFrom 13 = .ok (.putfield 195, 3) := by decide +kernel
theorem dX12_relaxedFrom_16 : decode cX12_relaxedFrom 16 = .ok (.iconst 0, 1) := by decide +kernel
theorem dX12_relaxedFrom_17 : decode cX12_relaxedFrom 17 = .ok (.istore_n 2, 1) := by decide +kernel
theorem dX12_relaxedFrom_18 : decode cX12_relaxedFrom 18 = .ok (.iconst 0, 1) := by decide +kernel
theorem dX12_relaxedFrom_19 : decode cX12_relaxedFrom 19 = .ok (.istore_n 3, 1) := by decide +kernel
theorem dX12_relaxedFrom_20 : decode cX12_relaxedFrom 20 = .ok (.aload_n 0, 1) := by decide +kernel
theorem dX12_relaxedFrom_21 : decode cX12_relaxedFrom 21 = .ok (.iload_n 1, 1) := by decide +kernel
theorem dX12_relaxedFrom_22 : decode cX12_relaxedFrom 22 = .ok (.iconst 1, 1) := by decide +kernel
theorem dX12_relaxedFrom_23 : decode cX12_relaxedFrom 23 = .ok (.invokevirtual 198, 3) := by decide +kernel
theorem dX12_relaxedFrom_26 : decode cX12_relaxedFrom 26 = .ok (.aload_n 0, 1) := by decide +kernel
theorem dX12_relaxedFrom_27 : decode cX12_relaxedFrom 27 = .ok (.iload_n 1, 1) := by decide +kernel
theorem dX12_relaxedFrom_28 : decode cX12_relaxedFrom 28 = .ok (.invokevirtual 202, 3) := by decide +kernel
theorem dX12_relaxedFrom_31 : decode cX12_relaxedFrom 31 = .ok (.aload_n 0, 1) := by decide +kernel
theorem dX12_relaxedFrom_32 : decode cX12_relaxedFrom 32 = .ok (.getfield 195, 3) := by decide +kernel
theorem dX12_relaxedFrom_35 : decode cX12_relaxedFrom 35 = .ok (.iload_n 2, 1) := by decide +kernel
theorem dX12_relaxedFrom_36 : decode cX12_relaxedFrom 36 = .ok (.iconst (-1), 1) := by decide +kernel
theorem dX12_relaxedFrom_37 : decode cX12_relaxedFrom 37 = .ok (.ixor, 1) := by decide +kernel
theorem dX12_relaxedFrom_38 : decode cX12_relaxedFrom 38 = .ok (.iand, 1) := by decide +kernel
theorem dX12_relaxedFrom_39 : decode cX12_relaxedFrom 39 = .ok (.ifCond .eq 125, 3) := by decide +kernel
theorem dX12_relaxedFrom_42 : decode cX12_relaxedFrom 42 = .ok (.iconst (-1), 1) := by decide +kernel
theorem dX12_relaxedFrom_43 : decode cX12_relaxedFrom 43 = .ok (.istore 4, 2) := by decide +kernel
theorem dX12_relaxedFrom_45 : decode cX12_relaxedFrom 45 = .ok (.iconst 0, 1) := by decide +kernel
theorem dX12_relaxedFrom_46 : decode cX12_relaxedFrom 46 = .ok (.istore 5, 2) := by decide +kernel
theorem dX12_relaxedFrom_48 : decode cX12_relaxedFrom 48 = .ok (.iload 5, 2) := by decide +kernel
theorem dX12_relaxedFrom_50 : decode cX12_relaxedFrom 50 = .ok (.bipush 30, 2) := by decide +kernel
theorem dX12_relaxedFrom_52 : decode cX12_relaxedFrom 52 = .ok (.if_icmp .ge 65, 3) := by decide +kernel
theorem dX12_relaxedFrom_55 : decode cX12_relaxedFrom 55 = .ok (.aload_n 0, 1) := by decide +kernel
theorem dX12_relaxedFrom_56 : decode cX12_relaxedFrom 56 = .ok (.getfield 195, 3) := by decide +kernel
theorem dX12_relaxedFrom_59 : decode cX12_relaxedFrom 59 = .ok (.iload_n 2, 1) := by decide +kernel
theorem dX12_relaxedFrom_60 : decode cX12_relaxedFrom 60 = .ok (.iconst (-1), 1) := by decide +kernel
theorem dX12_relaxedFrom_61 : decode cX12_relaxedFrom 61 = .ok (.ixor, 1) := by decide +kernel
theorem dX12_relaxedFrom_62 : decode cX12_relaxedFrom 62 = .ok (.iand, 1) := by decide +kernel
theorem dX12_relaxedFrom_63 : decode cX12_relaxedFrom 63 = .ok (.iload 5, 2) := by decide +kernel
theorem dX12_relaxedFrom_65 : decode cX12_relaxedFrom 65 = .ok (.ishr, 1) := by decide +kernel
theorem dX12_relaxedFrom_66 : decode cX12_relaxedFrom 66 = .ok (.iconst 1, 1) := by decide +kernel
theorem dX12_relaxedFrom_67 : decode cX12_relaxedFrom 67 = .ok (.iand, 1) := by decide +kernel
theorem dX12_relaxedFrom_68 : decode cX12_relaxedFrom 68 = .ok (.iconst 1, 1) := by decide +kernel
theorem dX12_relaxedFrom_69 : decode cX12_relaxedFrom 69 = .ok (.if_icmp .ne 7, 3) := by decide +kernel
theorem dX12_relaxedFrom_72 : decode cX12_relaxedFrom 72 = .ok (.iconst 1, 1) := by decide +kernel
theorem dX12_relaxedFrom_73 : decode cX12_relaxedFrom 73 = .ok (.goto 4, 3) := by decide +kernel
theorem dX12_relaxedFrom_76 : decode cX12_relaxedFrom 76 = .ok (.iconst 0, 1) := by decide +kernel
theorem dX12_relaxedFrom_77 : decode cX12_relaxedFrom 77 = .ok (.istore 6, 2) := by decide +kernel
theorem dX12_relaxedFrom_79 : decode cX12_relaxedFrom 79 = .ok (.iload 6, 2) := by decide +kernel
theorem dX12_relaxedFrom_81 : decode cX12_relaxedFrom 81 = .ok (.ifCond .eq 30, 3) := by decide +kernel
theorem dX12_relaxedFrom_84 : decode cX12_relaxedFrom 84 = .ok (.iload 4, 2) := by decide +kernel
theorem dX12_relaxedFrom_86 : decode cX12_relaxedFrom 86 = .ok (.iconst (-1), 1) := by decide +kernel
theorem dX12_relaxedFrom_87 : decode cX12_relaxedFrom 87 = .ok (.if_icmp .eq 20, 3) := by decide +kernel
theorem dX12_relaxedFrom_90 : decode cX12_relaxedFrom 90 = .ok (.aload_n 0, 1) := by decide +kernel
theorem dX12_relaxedFrom_91 : decode cX12_relaxedFrom 91 = .ok (.getfield 39, 3) := by decide +kernel
theorem dX12_relaxedFrom_94 : decode cX12_relaxedFrom 94 = .ok (.iload 5, 2) := by decide +kernel
theorem dX12_relaxedFrom_96 : decode cX12_relaxedFrom 96 = .ok (.iaload, 1) := by decide +kernel
theorem dX12_relaxedFrom_97 : decode cX12_relaxedFrom 97 = .ok (.aload_n 0, 1) := by decide +kernel
theorem dX12_relaxedFrom_98 : decode cX12_relaxedFrom 98 = .ok (.getfield 39, 3) := by decide +kernel
theorem dX12_relaxedFrom_101 : decode cX12_relaxedFrom 101 = .ok (.iload 4, 2) := by decide +kernel
theorem dX12_relaxedFrom_103 : decode cX12_relaxedFrom 103 = .ok (.iaload, 1) := by decide +kernel
theorem dX12_relaxedFrom_104 : decode cX12_relaxedFrom 104 = .ok (.if_icmp .le 7, 3) := by decide +kernel
theorem dX12_relaxedFrom_107 : decode cX12_relaxedFrom 107 = .ok (.iload 5, 2) := by decide +kernel
theorem dX12_relaxedFrom_109 : decode cX12_relaxedFrom 109 = .ok (.istore 4, 2) := by decide +kernel
theorem dX12_relaxedFrom_111 : decode cX12_relaxedFrom 111 = .ok (.iinc 5 1, 3) := by decide +kernel
theorem dX12_relaxedFrom_114 : decode cX12_relaxedFrom 114 = .ok (.goto (-66), 3) := by decide +kernel
theorem dX12_relaxedFrom_117 : decode cX12_relaxedFrom 117 = .ok (.iload_n 2, 1) := by decide +kernel
theorem dX12_relaxedFrom_118 : decode cX12_relaxedFrom 118 = .ok (.iconst 1, 1) := by decide +kernel
theorem dX12_relaxedFrom_119 : decode cX12_relaxedFrom 119 = .ok (.iload 4, 2) := by decide +kernel
theorem dX12_relaxedFrom_121 : decode cX12_relaxedFrom 121 = .ok (.ishl, 1) := by decide +kernel
theorem dX12_relaxedFrom_122 : decode cX12_relaxedFrom 122 = .ok (.ior, 1) := by decide +kernel
theorem dX12_relaxedFrom_123 : decode cX12_relaxedFrom 123 = .ok (.istore_n 2, 1) := by decide +kernel
theorem dX12_relaxedFrom_124 : decode cX12_relaxedFrom 124 = .ok (.aload_n 0, 1) := by decide +kernel
theorem dX12_relaxedFrom_125 : decode cX12_relaxedFrom 125 = .ok (.iload 4, 2) := by decide +kernel
theorem dX12_relaxedFrom_127 : decode cX12_relaxedFrom 127 = .ok (.invokevirtual 205, 3) := by decide +kernel
theorem dX12_relaxedFrom_130 : decode cX12_relaxedFrom 130 = .ok (.istore 5, 2) := by decide +kernel
theorem dX12_relaxedFrom_132 : decode cX12_relaxedFrom 132 = .ok (.iload_n 3, 1) := by decide +kernel
theorem dX12_relaxedFrom_133 : decode cX12_relaxedFrom 133 = .ok (.iconst 1, 1) := by decide +kernel
theorem dX12_relaxedFrom_134 : decode cX12_relaxedFrom 134 = .ok (.iload 5, 2) := by decide +kernel
theorem dX12_relaxedFrom_136 : decode cX12_relaxedFrom 136 = .ok (.ishl, 1) := by decide +kernel
theorem dX12_relaxedFrom_137 : decode cX12_relaxedFrom 137 = .ok (.ior, 1) := by decide +kernel
theorem dX12_relaxedFrom_138 : decode cX12_relaxedFrom 138 = .ok (.istore_n 3, 1) := by decide +kernel
theorem dX12_relaxedFrom_139 : decode cX12_relaxedFrom 139 = .ok (.aload_n 0, 1) := by decide +kernel
theorem dX12_relaxedFrom_140 : decode cX12_relaxedFrom 140 = .ok (.dup, 1) := by decide +kernel
theorem dX12_relaxedFrom_141 : decode cX12_relaxedFrom 141 = .ok (.getfield 195, 3) := by decide +kernel
theorem dX12_relaxedFrom_144 : decode cX12_relaxedFrom 144 = .ok (.aload_n 0, 1) := by decide +kernel
theorem dX12_relaxedFrom_145 : decode cX12_relaxedFrom 145 = .ok (.getfield 7, 3) := by decide +kernel
theorem dX12_relaxedFrom_148 : decode cX12_relaxedFrom 148 = .ok (.iconst 0, 1) := by decide +kernel
theorem dX12_relaxedFrom_149 : decode cX12_relaxedFrom 149 = .ok (.iload 5, 2) := by decide +kernel
theorem dX12_relaxedFrom_151 : decode cX12_relaxedFrom 151 = .ok (.iadd, 1) := by decide +kernel
theorem dX12_relaxedFrom_152 : decode cX12_relaxedFrom 152 = .ok (.iaload, 1) := by decide +kernel
theorem dX12_relaxedFrom_153 : decode cX12_relaxedFrom 153 = .ok (.iload_n 1, 1) := by decide +kernel
theorem dX12_relaxedFrom_154 : decode cX12_relaxedFrom 154 = .ok (.iconst (-1), 1) := by decide +kernel
theorem dX12_relaxedFrom_155 : decode cX12_relaxedFrom 155 = .ok (.ixor, 1) := by decide +kernel
theorem dX12_relaxedFrom_156 : decode cX12_relaxedFrom 156 = .ok (.iand, 1) := by decide +kernel
theorem dX12_relaxedFrom_157 : decode cX12_relaxedFrom 157 = .ok (.ior, 1) := by decide +kernel
theorem dX12_relaxedFrom_158 : decode cX12_relaxedFrom 158 = .ok (.putfield 195, 3) := by decide +kernel
theorem dX12_relaxedFrom_161 : decode cX12_relaxedFrom 161 = .ok (.goto (-130), 3) := by decide +kernel
theorem dX12_relaxedFrom_164 : decode cX12_relaxedFrom 164 = .ok (.iload_n 3, 1) := by decide +kernel
theorem dX12_relaxedFrom_165 : decode cX12_relaxedFrom 165 = .ok (.ireturn, 1) := by decide +kernel
theorem dX12_isComeTo_0 : decode cX12_isComeTo 0 = .ok (.aload_n 0, 1) := by decide +kernel
theorem dX12_isComeTo_1 : decode cX12_isComeTo 1 = .ok (.iload_n 1, 1) := by decide +kernel
theorem dX12_isComeTo_2 : decode cX12_isComeTo 2 = .ok (.iconst 0, 1) := by decide +kernel
theorem dX12_isComeTo_3 : decode cX12_isComeTo 3 = .ok (.invokevirtual 208, 3) := by decide +kernel
theorem dX12_isComeTo_6 : decode cX12_isComeTo 6 = .ok (.aload_n 0, 1) := by decide +kernel
theorem dX12_isComeTo_7 : decode cX12_isComeTo 7 = .ok (.getfield 7, 3) := by decide +kernel
theorem dX12_isComeTo_10 : decode cX12_isComeTo 10 = .ok (.sipush 169, 3) := by decide +kernel
theorem dX12_isComeTo_13 : decode cX12_isComeTo 13 = .ok (.iaload, 1) := by decide +kernel
theorem dX12_isComeTo_14 : decode cX12_isComeTo 14 = .ok (.invokestatic 161, 3) := by decide +kernel
theorem dX12_isComeTo_17 : decode cX12_isComeTo 17 = .ok (.ireturn, 1) := by decide +kernel
theorem dX12_costsOf_0 : decode cX12_costsOf 0 = .ok (.iconst 0, 1) := by decide +kernel
theorem dX12_costsOf_1 : decode cX12_costsOf 1 = .ok (.istore_n 2, 1) := by decide +kernel
theorem dX12_costsOf_2 : decode cX12_costsOf 2 = .ok (.iconst 0, 1) := by decide +kernel
theorem dX12_costsOf_3 : decode cX12_costsOf 3 = .ok (.istore_n 3, 1) := by decide +kernel
theorem dX12_costsOf_4 : decode cX12_costsOf 4 = .ok (.iload_n 3, 1) := by decide +kernel
theorem dX12_costsOf_5 : decode cX12_costsOf 5 = .ok (.aload_n 0, 1) := by decide +kernel
theorem dX12_costsOf_6 : decode cX12_costsOf 6 = .ok (.getfield 7, 3) := by decide +kernel
theorem dX12_costsOf_9 : decode cX12_costsOf 9 = .ok (.sipush 172, 3) := by decide +kernel
theorem dX12_costsOf_12 : decode cX12_costsOf 12 = .ok (.iaload, 1) := by decide +kernel
theorem dX12_costsOf_13 : decode cX12_costsOf 13 = .ok (.if_icmp .ge 34, 3) := by decide +kernel
theorem dX12_costsOf_16 : decode cX12_costsOf 16 = .ok (.iload_n 2, 1) := by decide +kernel
theorem dX12_costsOf_17 : decode cX12_costsOf 17 = .ok (.iload_n 1, 1) := by decide +kernel
theorem dX12_costsOf_18 : decode cX12_costsOf 18 = .ok (.iload_n 3, 1) := by decide +kernel
theorem dX12_costsOf_19 : decode cX12_costsOf 19 = .ok (.ishr, 1) := by decide +kernel
theorem dX12_costsOf_20 : decode cX12_costsOf 20 = .ok (.iconst 1, 1) := by decide +kernel
theorem dX12_costsOf_21 : decode cX12_costsOf 21 = .ok (.iand, 1) := by decide +kernel
theorem dX12_costsOf_22 : decode cX12_costsOf 22 = .ok (.iconst 1, 1) := by decide +kernel
theorem dX12_costsOf_23 : decode cX12_costsOf 23 = .ok (.if_icmp .ne 15, 3) := by decide +kernel
theorem dX12_costsOf_26 : decode cX12_costsOf 26 = .ok (.aload_n 0, 1) := by decide +kernel
theorem dX12_costsOf_27 : decode cX12_costsOf 27 = .ok (.getfield 7, 3) := by decide +kernel
theorem dX12_costsOf_30 : decode cX12_costsOf 30 = .ok (.bipush 72, 2) := by decide +kernel
theorem dX12_costsOf_32 : decode cX12_costsOf 32 = .ok (.iload_n 3, 1) := by decide +kernel
theorem dX12_costsOf_33 : decode cX12_costsOf 33 = .ok (.iadd, 1) := by decide +kernel
theorem dX12_costsOf_34 : decode cX12_costsOf 34 = .ok (.iaload, 1) := by decide +kernel
theorem dX12_costsOf_35 : decode cX12_costsOf 35 = .ok (.goto 4, 3) := by decide +kernel
theorem dX12_costsOf_38 : decode cX12_costsOf 38 = .ok (.iconst 0, 1) := by decide +kernel
theorem dX12_costsOf_39 : decode cX12_costsOf 39 = .ok (.iadd, 1) := by decide +kernel
theorem dX12_costsOf_40 : decode cX12_costsOf 40 = .ok (.istore_n 2, 1) := by decide +kernel
theorem dX12_costsOf_41 : decode cX12_costsOf 41 = .ok (.iinc 3 1, 3) := by decide +kernel
theorem dX12_costsOf_44 : decode cX12_costsOf 44 = .ok (.goto (-40), 3) := by decide +kernel
theorem dX12_costsOf_47 : decode cX12_costsOf 47 = .ok (.iload_n 2, 1) := by decide +kernel
theorem dX12_costsOf_48 : decode cX12_costsOf 48 = .ok (.ireturn, 1) := by decide +kernel
theorem dX12_guessed_0 : decode cX12_guessed 0 = .ok (.iload_n 2, 1) := by decide +kernel
theorem dX12_guessed_1 : decode cX12_guessed 1 = .ok (.ifCond .ne 20, 3) := by decide +kernel
theorem dX12_guessed_4 : decode cX12_guessed 4 = .ok (.aload_n 0, 1) := by decide +kernel
theorem dX12_guessed_5 : decode cX12_guessed 5 = .ok (.aload_n 0, 1) := by decide +kernel
theorem dX12_guessed_6 : decode cX12_guessed 6 = .ok (.getfield 7, 3) := by decide +kernel
theorem dX12_guessed_9 : decode cX12_guessed 9 = .ok (.sipush 169, 3) := by decide +kernel
theorem dX12_guessed_12 : decode cX12_guessed 12 = .ok (.iaload, 1) := by decide +kernel
theorem dX12_guessed_13 : decode cX12_guessed 13 = .ok (.iload_n 1, 1) := by decide +kernel
theorem dX12_guessed_14 : decode cX12_guessed 14 = .ok (.iconst (-1), 1) := by decide +kernel
theorem dX12_guessed_15 : decode cX12_guessed 15 = .ok (.ixor, 1) := by decide +kernel
theorem dX12_guessed_16 : decode cX12_guessed 16 = .ok (.iand, 1) := by decide +kernel
theorem dX12_guessed_17 : decode cX12_guessed 17 = .ok (.invokevirtual 211, 3) := by decide +kernel
theorem dX12_guessed_20 : decode cX12_guessed 20 = .ok (.ireturn, 1) := by decide +kernel
theorem dX12_guessed_21 : decode cX12_guessed 21 = .ok (.aload_n 0, 1) := by decide +kernel
theorem dX12_guessed_22 : decode cX12_guessed 22 = .ok (.iload_n 1, 1) := by decide +kernel
theorem dX12_guessed_23 : decode cX12_guessed 23 = .ok (.invokevirtual 214, 3) := by decide +kernel
theorem dX12_guessed_26 : decode cX12_guessed 26 = .ok (.ifCond .ne 5, 3) := by decide +kernel
theorem dX12_guessed_29 : decode cX12_guessed 29 = .ok (.iconst (-1), 1) := by decide +kernel
theorem dX12_guessed_30 : decode cX12_guessed 30 = .ok (.ireturn, 1) := by decide +kernel
theorem dX12_guessed_31 : decode cX12_guessed 31 = .ok (.iload_n 2, 1) := by decide +kernel
theorem dX12_guessed_32 : decode cX12_guessed 32 = .ok (.iconst 3, 1) := by decide +kernel
theorem dX12_guessed_33 : decode cX12_guessed 33 = .ok (.if_icmp .ne 13, 3) := by decide +kernel
theorem dX12_guessed_36 : decode cX12_guessed 36 = .ok (.aload_n 0, 1) := by decide +kernel
theorem dX12_guessed_37 : decode cX12_guessed 37 = .ok (.aload_n 0, 1) := by decide +kernel
theorem dX12_guessed_38 : decode cX12_guessed 38 = .ok (.iload_n 1, 1) := by decide +kernel
theorem dX12_guessed_39 : decode cX12_guessed 39 = .ok (.invokevirtual 217, 3) := by decide +kernel
theorem dX12_guessed_42 : decode cX12_guessed 42 = .ok (.invokevirtual 220, 3) := by decide +kernel
theorem dX12_guessed_45 : decode cX12_guessed 45 = .ok (.ireturn, 1) := by decide +kernel
theorem dX12_guessed_46 : decode cX12_guessed 46 = .ok (.aload_n 0, 1) := by decide +kernel
theorem dX12_guessed_47 : decode cX12_guessed 47 = .ok (.iload_n 1, 1) := by decide +kernel
theorem dX12_guessed_48 : decode cX12_guessed 48 = .ok (.iload_n 2, 1) := by decide +kernel
theorem dX12_guessed_49 : decode cX12_guessed 49 = .ok (.iconst 2, 1) := by decide +kernel
theorem dX12_guessed_50 : decode cX12_guessed 50 = .ok (.if_icmp .ne 7, 3) := by decide +kernel
theorem dX12_guessed_53 : decode cX12_guessed 53 = .ok (.iconst 1, 1) := by decide +kernel
theorem dX12_guessed_54 : decode cX12_guessed 54 = .ok (.goto 4, 3) := by decide +kernel
theorem dX12_guessed_57 : decode cX12_guessed 57 = .ok (.iconst 0, 1) := by decide +kernel
theorem dX12_guessed_58 : decode cX12_guessed 58 = .ok (.invokevirtual 198, 3) := by decide +kernel
theorem dX12_guessed_61 : decode cX12_guessed 61 = .ok (.aload_n 0, 1) := by decide +kernel
theorem dX12_guessed_62 : decode cX12_guessed 62 = .ok (.aload_n 0, 1) := by decide +kernel
theorem dX12_guessed_63 : decode cX12_guessed 63 = .ok (.getfield 7, 3) := by decide +kernel
theorem dX12_guessed_66 : decode cX12_guessed 66 = .ok (.sipush 169, 3) := by decide +kernel
theorem dX12_guessed_69 : decode cX12_guessed 69 = .ok (.iaload, 1) := by decide +kernel
theorem dX12_guessed_70 : decode cX12_guessed 70 = .ok (.iload_n 2, 1) := by decide +kernel
theorem dX12_guessed_71 : decode cX12_guessed 71 = .ok (.iconst 2, 1) := by decide +kernel
theorem dX12_guessed_72 : decode cX12_guessed 72 = .ok (.if_icmp .ne 7, 3) := by decide +kernel
theorem dX12_guessed_75 : decode cX12_guessed 75 = .ok (.iconst 1, 1) := by decide +kernel
theorem dX12_guessed_76 : decode cX12_guessed 76 = .ok (.goto 4, 3) := by decide +kernel
theorem dX12_guessed_79 : decode cX12_guessed 79 = .ok (.iconst 0, 1) := by decide +kernel
theorem dX12_guessed_80 : decode cX12_guessed 80 = .ok (.invokevirtual 188, 3) := by decide +kernel
theorem dX12_guessed_83 : decode cX12_guessed 83 = .ok (.ireturn, 1) := by decide +kernel
theorem dX12_guess_0 : decode cX12_guess 0 = .ok (.iload_n 2, 1) := by decide +kernel
theorem dX12_guess_1 : decode cX12_guess 1 = .ok (.iconst 0, 1) := by decide +kernel
theorem dX12_guess_2 : decode cX12_guess 2 = .ok (.iconst 3, 1) := by decide +kernel
theorem dX12_guess_3 : decode cX12_guess 3 = .ok (.invokestatic 67, 3) := by decide +kernel
theorem dX12_guess_6 : decode cX12_guess 6 = .ok (.ifCond .ne 9, 3) := by decide +kernel
theorem dX12_guess_9 : decode cX12_guess 9 = .ok (.aload_n 0, 1) := by decide +kernel
theorem dX12_guess_10 : decode cX12_guess 10 = .ok (.iconst (-1), 1) := by decide +kernel
theorem dX12_guess_11 : decode cX12_guess 11 = .ok (.invokevirtual 177, 3) := by decide +kernel
theorem dX12_guess_14 : decode cX12_guess 14 = .ok (.ireturn, 1) := by decide +kernel
theorem dX12_guess_15 : decode cX12_guess 15 = .ok (.iload_n 1, 1) := by decide +kernel
theorem dX12_guess_16 : decode cX12_guess 16 = .ok (.invokestatic 91, 3) := by decide +kernel
theorem dX12_guess_19 : decode cX12_guess 19 = .ok (.ifCond .eq 12, 3) := by decide +kernel
theorem dX12_guess_22 : decode cX12_guess 22 = .ok (.aload_n 0, 1) := by decide +kernel
theorem dX12_guess_23 : decode cX12_guess 23 = .ok (.iload_n 1, 1) := by decide +kernel
theorem dX12_guess_24 : decode cX12_guess 24 = .ok (.iload_n 2, 1) := by decide +kernel
theorem dX12_guess_25 : decode cX12_guess 25 = .ok (.invokevirtual 223, 3) := by decide +kernel
theorem dX12_guess_28 : decode cX12_guess 28 = .ok (.goto 9, 3) := by decide +kernel
theorem dX12_guess_31 : decode cX12_guess 31 = .ok (.aload_n 0, 1) := by decide +kernel
theorem dX12_guess_32 : decode cX12_guess 32 = .ok (.bipush (-6), 2) := by decide +kernel
theorem dX12_guess_34 : decode cX12_guess 34 = .ok (.invokevirtual 177, 3) := by decide +kernel
theorem dX12_guess_37 : decode cX12_guess 37 = .ok (.ireturn, 1) := by decide +kernel
theorem dX12_relaxed_0 : decode cX12_relaxed 0 = .ok (.iload_n 1, 1) := by decide +kernel
theorem dX12_relaxed_1 : decode cX12_relaxed 1 = .ok (.invokestatic 91, 3) := by decide +kernel
theorem dX12_relaxed_4 : decode cX12_relaxed 4 = .ok (.ifCond .ne 10, 3) := by decide +kernel
theorem dX12_relaxed_7 : decode cX12_relaxed 7 = .ok (.aload_n 0, 1) := by decide +kernel
theorem dX12_relaxed_8 : decode cX12_relaxed 8 = .ok (.bipush (-6), 2) := by decide +kernel
theorem dX12_relaxed_10 : decode cX12_relaxed 10 = .ok (.invokevirtual 75, 3) := by decide +kernel
theorem dX12_relaxed_13 : decode cX12_relaxed 13 = .ok (.ireturn, 1) := by decide +kernel
theorem dX12_relaxed_14 : decode cX12_relaxed 14 = .ok (.aload_n 0, 1) := by decide +kernel
theorem dX12_relaxed_15 : decode cX12_relaxed 15 = .ok (.iload_n 1, 1) := by decide +kernel
theorem dX12_relaxed_16 : decode cX12_relaxed 16 = .ok (.invokevirtual 214, 3) := by decide +kernel
theorem dX12_relaxed_19 : decode cX12_relaxed 19 = .ok (.ifCond .eq 11, 3) := by decide +kernel
theorem dX12_relaxed_22 : decode cX12_relaxed 22 = .ok (.aload_n 0, 1) := by decide +kernel
theorem dX12_relaxed_23 : decode cX12_relaxed 23 = .ok (.iload_n 1, 1) := by decide +kernel
theorem dX12_relaxed_24 : decode cX12_relaxed 24 = .ok (.invokevirtual 217, 3) := by decide +kernel
theorem dX12_relaxed_27 : decode cX12_relaxed 27 = .ok (.goto 4, 3) := by decide +kernel
theorem dX12_relaxed_30 : decode cX12_relaxed 30 = .ok (.iconst 0, 1) := by decide +kernel
theorem dX12_relaxed_31 : decode cX12_relaxed 31 = .ok (.ireturn, 1) := by decide +kernel
theorem dX12_helpful_0 : decode cX12_helpful 0 = .ok (.iload_n 1, 1) := by decide +kernel
theorem dX12_helpful_1 : decode cX12_helpful 1 = .ok (.invokestatic 91, 3) := by decide +kernel
theorem dX12_helpful_4 : decode cX12_helpful 4 = .ok (.ifCond .ne 10, 3) := by decide +kernel
theorem dX12_helpful_7 : decode cX12_helpful 7 = .ok (.aload_n 0, 1) := by decide +kernel
theorem dX12_helpful_8 : decode cX12_helpful 8 = .ok (.bipush (-6), 2) := by decide +kernel
theorem dX12_helpful_10 : decode cX12_helpful 10 = .ok (.invokevirtual 75, 3) := by decide +kernel
theorem dX12_helpful_13 : decode cX12_helpful 13 = .ok (.ireturn, 1) := by decide +kernel
theorem dX12_helpful_14 : decode cX12_helpful 14 = .ok (.aload_n 0, 1) := by decide +kernel
theorem dX12_helpful_15 : decode cX12_helpful 15 = .ok (.iload_n 1, 1) := by decide +kernel
theorem dX12_helpful_16 : decode cX12_helpful 16 = .ok (.invokevirtual 214, 3) := by decide +kernel
theorem dX12_helpful_19 : decode cX12_helpful 19 = .ok (.ifCond .ne 5, 3) := by decide +kernel
theorem dX12_helpful_22 : decode cX12_helpful 22 = .ok (.iconst 0, 1) := by decide +kernel
theorem dX12_helpful_23 : decode cX12_helpful 23 = .ok (.ireturn, 1) := by decide +kernel
theorem dX12_helpful_24 : decode cX12_helpful 24 = .ok (.aload_n 0, 1) := by decide +kernel
theorem dX12_helpful_25 : decode cX12_helpful 25 = .ok (.iload_n 1, 1) := by decide +kernel
theorem dX12_helpful_26 : decode cX12_helpful 26 = .ok (.invokevirtual 217, 3) := by decide +kernel
theorem dX12_helpful_29 : decode cX12_helpful 29 = .ok (.pop, 1) := by decide +kernel
theorem dX12_helpful_30 : decode cX12_helpful 30 = .ok (.aload_n 0, 1) := by decide +kernel
theorem dX12_helpful_31 : decode cX12_helpful 31 = .ok (.iload_n 1, 1) := by decide +kernel
theorem dX12_helpful_32 : decode cX12_helpful 32 = .ok (.iconst 0, 1) := by decide +kernel
theorem dX12_helpful_33 : decode cX12_helpful 33 = .ok (.invokevirtual 171, 3) := by decide +kernel
theorem dX12_helpful_36 : decode cX12_helpful 36 = .ok (.iload_n 1, 1) := by decide +kernel
theorem dX12_helpful_37 : decode cX12_helpful 37 = .ok (.iconst (-1), 1) := by decide +kernel
theorem dX12_helpful_38 : decode cX12_helpful 38 = .ok (.ixor, 1) := by decide +kernel
theorem dX12_helpful_39 : decode cX12_helpful 39 = .ok (.iand, 1) := by decide +kernel
theorem dX12_helpful_40 : decode cX12_helpful 40 = .ok (.aload_n 0, 1) := by decide +kernel
theorem dX12_helpful_41 : decode cX12_helpful 41 = .ok (.getfield 195, 3) := by decide +kernel
theorem dX12_helpful_44 : decode cX12_helpful 44 = .ok (.iand, 1) := by decide +kernel
theorem dX12_helpful_45 : decode cX12_helpful 45 = .ok (.istore_n 2, 1) := by decide +kernel
theorem dX12_helpful_46 : decode cX12_helpful 46 = .ok (.iconst 0, 1) := by decide +kernel
theorem dX12_helpful_47 : decode cX12_helpful 47 = .ok (.istore_n 3, 1) := by decide +kernel
theorem dX12_helpful_48 : decode cX12_helpful 48 = .ok (.iconst 0, 1) := by decide +kernel
theorem dX12_helpful_49 : decode cX12_helpful 49 = .ok (.istore 4, 2) := by decide +kernel
theorem dX12_helpful_51 : decode cX12_helpful 51 = .ok (.iload 4, 2) := by decide +kernel
theorem dX12_helpful_53 : decode cX12_helpful 53 = .ok (.aload_n 0, 1) := by decide +kernel
theorem dX12_helpful_54 : decode cX12_helpful 54 = .ok (.getfield 7, 3) := by decide +kernel
theorem dX12_helpful_57 : decode cX12_helpful 57 = .ok (.sipush 172, 3) := by decide +kernel
theorem dX12_helpful_60 : decode cX12_helpful 60 = .ok (.iaload, 1) := by decide +kernel
theorem dX12_helpful_61 : decode cX12_helpful 61 = .ok (.if_icmp .ge 45, 3) := by decide +kernel
theorem dX12_helpful_64 : decode cX12_helpful 64 = .ok (.iload_n 3, 1) := by decide +kernel
theorem dX12_helpful_65 : decode cX12_helpful 65 = .ok (.aload_n 0, 1) := by decide +kernel
theorem dX12_helpful_66 : decode cX12_helpful 66 = .ok (.iload_n 1, 1) := by decide +kernel
theorem dX12_helpful_67 : decode cX12_helpful 67 = .ok (.iload 4, 2) := by decide +kernel
theorem dX12_helpful_69 : decode cX12_helpful 69 = .ok (.invokevirtual 165, 3) := by decide +kernel
theorem dX12_helpful_72 : decode cX12_helpful 72 = .ok (.ifCond .eq 25, 3) := by decide +kernel
theorem dX12_helpful_75 : decode cX12_helpful 75 = .ok (.aload_n 0, 1) := by decide +kernel
theorem dX12_helpful_76 : decode cX12_helpful 76 = .ok (.getfield 7, 3) := by decide +kernel
theorem dX12_helpful_79 : decode cX12_helpful 79 = .ok (.bipush 24, 2) := by decide +kernel
theorem dX12_helpful_81 : decode cX12_helpful 81 = .ok (.iload 4, 2) := by decide +kernel
theorem dX12_helpful_83 : decode cX12_helpful 83 = .ok (.iadd, 1) := by decide +kernel
theorem dX12_helpful_84 : decode cX12_helpful 84 = .ok (.iaload, 1) := by decide +kernel
theorem dX12_helpful_85 : decode cX12_helpful 85 = .ok (.iload_n 2, 1) := by decide +kernel
theorem dX12_helpful_86 : decode cX12_helpful 86 = .ok (.iand, 1) := by decide +kernel
theorem dX12_helpful_87 : decode cX12_helpful 87 = .ok (.ifCond .eq 10, 3) := by decide +kernel
theorem dX12_helpful_90 : decode cX12_helpful 90 = .ok (.iconst 1, 1) := by decide +kernel
theorem dX12_helpful_91 : decode cX12_helpful 91 = .ok (.iload 4, 2) := by decide +kernel
theorem dX12_helpful_93 : decode cX12_helpful 93 = .ok (.ishl, 1) := by decide +kernel
theorem dX12_helpful_94 : decode cX12_helpful 94 = .ok (.goto 4, 3) := by decide +kernel
theorem dX12_helpful_97 : decode cX12_helpful 97 = .ok (.iconst 0, 1) := by decide +kernel
theorem dX12_helpful_98 : decode cX12_helpful 98 = .ok (.ior, 1) := by decide +kernel
theorem dX12_helpful_99 : decode cX12_helpful 99 = .ok (.istore_n 3, 1) := by decide +kernel
theorem dX12_helpful_100 : decode cX12_helpful 100 = .ok (.iinc 4 1, 3) := by decide +kernel
theorem dX12_helpful_103 : decode cX12_helpful 103 = .ok (.goto (-52), 3) := by decide +kernel
theorem dX12_helpful_106 : decode cX12_helpful 106 = .ok (.iload_n 3, 1) := by decide +kernel
theorem dX12_helpful_107 : decode cX12_helpful 107 = .ok (.ireturn, 1) := by decide +kernel
theorem dX12_landmarks_0 : decode cX12_landmarks 0 = .ok (.iconst 0, 1) := by decide +kernel
theorem dX12_landmarks_1 : decode cX12_landmarks 1 = .ok (.istore_n 1, 1) := by decide +kernel
theorem dX12_landmarks_2 : decode cX12_landmarks 2 = .ok (.iconst 0, 1) := by decide +kernel
theorem dX12_landmarks_3 : decode cX12_landmarks 3 = .ok (.istore_n 2, 1) := by decide +kernel
theorem dX12_landmarks_4 : decode cX12_landmarks 4 = .ok (.iload_n 2, 1) := by decide +kernel
theorem dX12_landmarks_5 : decode cX12_landmarks 5 = .ok (.bipush 30, 2) := by decide +kernel
theorem dX12_landmarks_7 : decode cX12_landmarks 7 = .ok (.if_icmp .ge 63, 3) := by decide +kernel
theorem dX12_landmarks_10 : decode cX12_landmarks 10 = .ok (.aload_n 0, 1) := by decide +kernel
theorem dX12_landmarks_11 : decode cX12_landmarks 11 = .ok (.aload_n 0, 1) := by decide +kernel
theorem dX12_landmarks_12 : decode cX12_landmarks 12 = .ok (.getfield 7, 3) := by decide +kernel
theorem dX12_landmarks_15 : decode cX12_landmarks 15 = .ok (.sipush 168, 3) := by decide +kernel
theorem dX12_landmarks_18 : decode cX12_landmarks 18 = .ok (.iaload, 1) := by decide +kernel
theorem dX12_landmarks_19 : decode cX12_landmarks 19 = .ok (.invokevirtual 214, 3) := by decide +kernel
theorem dX12_landmarks_22 : decode cX12_landmarks 22 = .ok (.ifCond .eq 48, 3) := by decide +kernel
theorem dX12_landmarks_25 : decode cX12_landmarks 25 = .ok (.iload_n 1, 1) := by decide +kernel
theorem dX12_landmarks_26 : decode cX12_landmarks 26 = .ok (.aload_n 0, 1) := by decide +kernel
theorem dX12_landmarks_27 : decode cX12_landmarks 27 = .ok (.aload_n 0, 1) := by decide +kernel
theorem dX12_landmarks_28 : decode cX12_landmarks 28 = .ok (.getfield 7, 3) := by decide +kernel
theorem dX12_landmarks_31 : decode cX12_landmarks 31 = .ok (.sipush 168, 3) := by decide +kernel
theorem dX12_landmarks_34 : decode cX12_landmarks 34 = .ok (.iaload, 1) := by decide +kernel
theorem dX12_landmarks_35 : decode cX12_landmarks 35 = .ok (.iconst 1, 1) := by decide +kernel
theorem dX12_landmarks_36 : decode cX12_landmarks 36 = .ok (.iload_n 2, 1) := by decide +kernel
theorem dX12_landmarks_37 : decode cX12_landmarks 37 = .ok (.ishl, 1) := by decide +kernel
theorem dX12_landmarks_38 : decode cX12_landmarks 38 = .ok (.invokevirtual 208, 3) := by decide +kernel
theorem dX12_landmarks_41 : decode cX12_landmarks 41 = .ok (.aload_n 0, 1) := by decide +kernel
theorem dX12_landmarks_42 : decode cX12_landmarks 42 = .ok (.getfield 7, 3) := by decide +kernel
theorem dX12_landmarks_45 : decode cX12_landmarks 45 = .ok (.sipush 169, 3) := by decide +kernel
theorem dX12_landmarks_48 : decode cX12_landmarks 48 = .ok (.iaload, 1) := by decide +kernel
theorem dX12_landmarks_49 : decode cX12_landmarks 49 = .ok (.invokestatic 161, 3) := by decide +kernel
theorem dX12_landmarks_52 : decode cX12_landmarks 52 = .ok (.ifCond .eq 7, 3) := by decide +kernel
theorem dX12_landmarks_55 : decode cX12_landmarks 55 = .ok (.iconst 0, 1) := by decide +kernel
theorem dX12_landmarks_56 : decode cX12_landmarks 56 = .ok (.goto 6, 3) := by decide +kernel
theorem dX12_landmarks_59 : decode cX12_landmarks 59 = .ok (.iconst 1, 1) := by decide +kernel
theorem dX12_landmarks_60 : decode cX12_landmarks 60 = .ok (.iload_n 2, 1) := by decide +kernel
theorem dX12_landmarks_61 : decode cX12_landmarks 61 = .ok (.ishl, 1) := by decide +kernel
theorem dX12_landmarks_62 : decode cX12_landmarks 62 = .ok (.ior, 1) := by decide +kernel
theorem dX12_landmarks_63 : decode cX12_landmarks 63 = .ok (.istore_n 1, 1) := by decide +kernel
theorem dX12_landmarks_64 : decode cX12_landmarks 64 = .ok (.iinc 2 1, 3) := by decide +kernel
theorem dX12_landmarks_67 : decode cX12_landmarks 67 = .ok (.goto (-63), 3) := by decide +kernel
theorem dX12_landmarks_70 : decode cX12_landmarks 70 = .ok (.iload_n 1, 1) := by decide +kernel
theorem dX12_landmarks_71 : decode cX12_landmarks 71 = .ok (.ireturn, 1) := by decide +kernel
theorem dX12_isAhead_0 : decode cX12_isAhead 0 = .ok (.iload_n 1, 1) := by decide +kernel
theorem dX12_isAhead_1 : decode cX12_isAhead 1 = .ok (.invokestatic 174, 3) := by decide +kernel
theorem dX12_isAhead_4 : decode cX12_isAhead 4 = .ok (.ifCond .eq 10, 3) := by decide +kernel
theorem dX12_isAhead_7 : decode cX12_isAhead 7 = .ok (.iload_n 2, 1) := by decide +kernel
theorem dX12_isAhead_8 : decode cX12_isAhead 8 = .ok (.invokestatic 174, 3) := by decide +kernel
theorem dX12_isAhead_11 : decode cX12_isAhead 11 = .ok (.ifCond .ne 9, 3) := by decide +kernel
theorem dX12_isAhead_14 : decode cX12_isAhead 14 = .ok (.aload_n 0, 1) := by decide +kernel
theorem dX12_isAhead_15 : decode cX12_isAhead 15 = .ok (.iconst (-1), 1) := by decide +kernel
theorem dX12_isAhead_16 : decode cX12_isAhead 16 = .ok (.invokevirtual 75, 3) := by decide +kernel
theorem dX12_isAhead_19 : decode cX12_isAhead 19 = .ok (.ireturn, 1) := by decide +kernel
theorem dX12_isAhead_20 : decode cX12_isAhead 20 = .ok (.iload_n 1, 1) := by decide +kernel
theorem dX12_isAhead_21 : decode cX12_isAhead 21 = .ok (.iload_n 2, 1) := by decide +kernel
theorem dX12_isAhead_22 : decode cX12_isAhead 22 = .ok (.if_icmp .eq 27, 3) := by decide +kernel
theorem dX12_isAhead_25 : decode cX12_isAhead 25 = .ok (.aload_n 0, 1) := by decide +kernel
theorem dX12_isAhead_26 : decode cX12_isAhead 26 = .ok (.aload_n 0, 1) := by decide +kernel
theorem dX12_isAhead_27 : decode cX12_isAhead 27 = .ok (.getfield 7, 3) := by decide +kernel
theorem dX12_isAhead_30 : decode cX12_isAhead 30 = .ok (.sipush 168, 3) := by decide +kernel
theorem dX12_isAhead_33 : decode cX12_isAhead 33 = .ok (.iaload, 1) := by decide +kernel
theorem dX12_isAhead_34 : decode cX12_isAhead 34 = .ok (.iconst 1, 1) := by decide +kernel
theorem dX12_isAhead_35 : decode cX12_isAhead 35 = .ok (.iload_n 1, 1) := by decide +kernel
theorem dX12_isAhead_36 : decode cX12_isAhead 36 = .ok (.ishl, 1) := by decide +kernel
theorem dX12_isAhead_37 : decode cX12_isAhead 37 = .ok (.invokevirtual 208, 3) := by decide +kernel
theorem dX12_isAhead_40 : decode cX12_isAhead 40 = .ok (.iconst 1, 1) := by decide +kernel
theorem dX12_isAhead_41 : decode cX12_isAhead 41 = .ok (.iload_n 2, 1) := by decide +kernel
theorem dX12_isAhead_42 : decode cX12_isAhead 42 = .ok (.ishl, 1) := by decide +kernel
theorem dX12_isAhead_43 : decode cX12_isAhead 43 = .ok (.invokestatic 161, 3) := by decide +kernel
theorem dX12_isAhead_46 : decode cX12_isAhead 46 = .ok (.ifCond .eq 7, 3) := by decide +kernel
theorem dX12_isAhead_49 : decode cX12_isAhead 49 = .ok (.iconst 0, 1) := by decide +kernel
theorem dX12_isAhead_50 : decode cX12_isAhead 50 = .ok (.goto 4, 3) := by decide +kernel
theorem dX12_isAhead_53 : decode cX12_isAhead 53 = .ok (.iconst 1, 1) := by decide +kernel
theorem dX12_isAhead_54 : decode cX12_isAhead 54 = .ok (.ireturn, 1) := by decide +kernel
theorem dX12_placeOf_0 : decode cX12_placeOf 0 = .ok (.iconst 0, 1) := by decide +kernel
theorem dX12_placeOf_1 : decode cX12_placeOf 1 = .ok (.istore_n 2, 1) := by decide +kernel
theorem dX12_placeOf_2 : decode cX12_placeOf 2 = .ok (.iload_n 2, 1) := by decide +kernel
theorem dX12_placeOf_3 : decode cX12_placeOf 3 = .ok (.aload_n 0, 1) := by decide +kernel
theorem dX12_placeOf_4 : decode cX12_placeOf 4 = .ok (.getfield 226, 3) := by decide +kernel
theorem dX12_placeOf_7 : decode cX12_placeOf 7 = .ok (.if_icmp .ge 21, 3) := by decide +kernel
theorem dX12_placeOf_10 : decode cX12_placeOf 10 = .ok (.aload_n 0, 1) := by decide +kernel
theorem dX12_placeOf_11 : decode cX12_placeOf 11 = .ok (.getfield 45, 3) := by decide +kernel
theorem dX12_placeOf_14 : decode cX12_placeOf 14 = .ok (.iload_n 2, 1) := by decide +kernel
theorem dX12_placeOf_15 : decode cX12_placeOf 15 = .ok (.iaload, 1) := by decide +kernel
theorem dX12_placeOf_16 : decode cX12_placeOf 16 = .ok (.iload_n 1, 1) := by decide +kernel
theorem dX12_placeOf_17 : decode cX12_placeOf 17 = .ok (.if_icmp .ne 5, 3) := by decide +kernel
theorem dX12_placeOf_20 : decode cX12_placeOf 20 = .ok (.iload_n 2, 1) := by decide +kernel
theorem dX12_placeOf_21 : decode cX12_placeOf 21 = .ok (.ireturn, 1) := by decide +kernel
theorem dX12_placeOf_22 : decode cX12_placeOf 22 = .ok (.iinc 2 1, 3) := by decide +kernel
theorem dX12_placeOf_25 : decode cX12_placeOf 25 = .ok (.goto (-23), 3) := by decide +kernel
theorem dX12_placeOf_28 : decode cX12_placeOf 28 = .ok (.iconst (-1), 1) := by decide +kernel
theorem dX12_placeOf_29 : decode cX12_placeOf 29 = .ok (.ireturn, 1) := by decide +kernel
theorem dX12_goesOn_0 : decode cX12_goesOn 0 = .ok (.aload_n 0, 1) := by decide +kernel
theorem dX12_goesOn_1 : decode cX12_goesOn 1 = .ok (.getfield 45, 3) := by decide +kernel
theorem dX12_goesOn_4 : decode cX12_goesOn 4 = .ok (.iconst 0, 1) := by decide +kernel
theorem dX12_goesOn_5 : decode cX12_goesOn 5 = .ok (.aload_n 0, 1) := by decide +kernel
theorem dX12_goesOn_6 : decode cX12_goesOn 6 = .ok (.getfield 7, 3) := by decide +kernel
theorem dX12_goesOn_9 : decode cX12_goesOn 9 = .ok (.sipush 168, 3) := by decide +kernel
theorem dX12_goesOn_12 : decode cX12_goesOn 12 = .ok (.iaload, 1) := by decide +kernel
theorem dX12_goesOn_13 : decode cX12_goesOn 13 = .ok (.iastore, 1) := by decide +kernel
theorem dX12_goesOn_14 : decode cX12_goesOn 14 = .ok (.aload_n 0, 1) := by decide +kernel
theorem dX12_goesOn_15 : decode cX12_goesOn 15 = .ok (.iconst 1, 1) := by decide +kernel
theorem dX12_goesOn_16 : decode cX12_goesOn 16 = .ok (.putfield 226, 3) := by decide +kernel
theorem dX12_goesOn_19 : decode cX12_goesOn 19 = .ok (.iconst 0, 1) := by decide +kernel
theorem dX12_goesOn_20 : decode cX12_goesOn 20 = .ok (.istore_n 1, 1) := by decide +kernel
theorem dX12_goesOn_21 : decode cX12_goesOn 21 = .ok (.iload_n 1, 1) := by decide +kernel
theorem dX12_goesOn_22 : decode cX12_goesOn 22 = .ok (.aload_n 0, 1) := by decide +kernel
theorem dX12_goesOn_23 : decode cX12_goesOn 23 = .ok (.getfield 226, 3) := by decide +kernel
theorem dX12_goesOn_26 : decode cX12_goesOn 26 = .ok (.if_icmp .ge 126, 3) := by decide +kernel
theorem dX12_goesOn_29 : decode cX12_goesOn 29 = .ok (.iconst 0, 1) := by decide +kernel
theorem dX12_goesOn_30 : decode cX12_goesOn 30 = .ok (.istore_n 2, 1) := by decide +kernel
theorem dX12_goesOn_31 : decode cX12_goesOn 31 = .ok (.iload_n 2, 1) := by decide +kernel
theorem dX12_goesOn_32 : decode cX12_goesOn 32 = .ok (.aload_n 0, 1) := by decide +kernel
theorem dX12_goesOn_33 : decode cX12_goesOn 33 = .ok (.getfield 7, 3) := by decide +kernel
theorem dX12_goesOn_36 : decode cX12_goesOn 36 = .ok (.sipush 172, 3) := by decide +kernel
theorem dX12_goesOn_39 : decode cX12_goesOn 39 = .ok (.iaload, 1) := by decide +kernel
theorem dX12_goesOn_40 : decode cX12_goesOn 40 = .ok (.if_icmp .ge 106, 3) := by decide +kernel
theorem dX12_goesOn_43 : decode cX12_goesOn 43 = .ok (.aload_n 0, 1) := by decide +kernel
theorem dX12_goesOn_44 : decode cX12_goesOn 44 = .ok (.aload_n 0, 1) := by decide +kernel
theorem dX12_goesOn_45 : decode cX12_goesOn 45 = .ok (.getfield 45, 3) := by decide +kernel
theorem dX12_goesOn_48 : decode cX12_goesOn 48 = .ok (.iload_n 1, 1) := by decide +kernel
theorem dX12_goesOn_49 : decode cX12_goesOn 49 = .ok (.iaload, 1) := by decide +kernel
theorem dX12_goesOn_50 : decode cX12_goesOn 50 = .ok (.iload_n 2, 1) := by decide +kernel
theorem dX12_goesOn_51 : decode cX12_goesOn 51 = .ok (.invokevirtual 165, 3) := by decide +kernel
theorem dX12_goesOn_54 : decode cX12_goesOn 54 = .ok (.ifCond .eq 17, 3) := by decide +kernel
theorem dX12_goesOn_57 : decode cX12_goesOn 57 = .ok (.aload_n 0, 1) := by decide +kernel
theorem dX12_goesOn_58 : decode cX12_goesOn 58 = .ok (.aload_n 0, 1) := by decide +kernel
theorem dX12_goesOn_59 : decode cX12_goesOn 59 = .ok (.getfield 45, 3) := by decide +kernel
theorem dX12_goesOn_62 : decode cX12_goesOn 62 = .ok (.iload_n 1, 1) := by decide +kernel
theorem dX12_goesOn_63 : decode cX12_goesOn 63 = .ok (.iaload, 1) := by decide +kernel
theorem dX12_goesOn_64 : decode cX12_goesOn 64 = .ok (.iload_n 2, 1) := by decide +kernel
theorem dX12_goesOn_65 : decode cX12_goesOn 65 = .ok (.invokevirtual 168, 3) := by decide +kernel
theorem dX12_goesOn_68 : decode cX12_goesOn 68 = .ok (.goto 9, 3) := by decide +kernel
theorem dX12_goesOn_71 : decode cX12_goesOn 71 = .ok (.aload_n 0, 1) := by decide +kernel
theorem dX12_goesOn_72 : decode cX12_goesOn 72 = .ok (.getfield 45, 3) := by decide +kernel
theorem dX12_goesOn_75 : decode cX12_goesOn 75 = .ok (.iload_n 1, 1) := by decide +kernel
theorem dX12_goesOn_76 : decode cX12_goesOn 76 = .ok (.iaload, 1) := by decide +kernel
theorem dX12_goesOn_77 : decode cX12_goesOn 77 = .ok (.istore_n 3, 1) := by decide +kernel
theorem dX12_goesOn_78 : decode cX12_goesOn 78 = .ok (.aload_n 0, 1) := by decide +kernel
theorem dX12_goesOn_79 : decode cX12_goesOn 79 = .ok (.iload_n 3, 1) := by decide +kernel
theorem dX12_goesOn_80 : decode cX12_goesOn 80 = .ok (.invokevirtual 229, 3) := by decide +kernel
theorem dX12_goesOn_83 : decode cX12_goesOn 83 = .ok (.istore 4, 2) := by decide +kernel
theorem dX12_goesOn_85 : decode cX12_goesOn 85 = .ok (.iload 4, 2) := by decide +kernel
theorem dX12_goesOn_87 : decode cX12_goesOn 87 = .ok (.iconst (-1), 1) := by decide +kernel
theorem dX12_goesOn_88 : decode cX12_goesOn 88 = .ok (.if_icmp .ne 39, 3) := by decide +kernel
theorem dX12_goesOn_91 : decode cX12_goesOn 91 = .ok (.aload_n 0, 1) := by decide +kernel
theorem dX12_goesOn_92 : decode cX12_goesOn 92 = .ok (.getfield 226, 3) := by decide +kernel
theorem dX12_goesOn_95 : decode cX12_goesOn 95 = .ok (.sipush 300, 3) := by decide +kernel
theorem dX12_goesOn_98 : decode cX12_goesOn 98 = .ok (.if_icmp .ne 5, 3) := by decide +kernel
theorem dX12_goesOn_101 : decode cX12_goesOn 101 = .ok (.iconst 0, 1) := by decide +kernel
theorem dX12_goesOn_102 : decode cX12_goesOn 102 = .ok (.ireturn, 1) := by decide +kernel
theorem dX12_goesOn_103 : decode cX12_goesOn 103 = .ok (.aload_n 0, 1) := by decide +kernel
theorem dX12_goesOn_104 : decode cX12_goesOn 104 = .ok (.getfield 226, 3) := by decide +kernel
theorem dX12_goesOn_107 : decode cX12_goesOn 107 = .ok (.istore 4, 2) := by decide +kernel
theorem dX12_goesOn_109 : decode cX12_goesOn 109 = .ok (.aload_n 0, 1) := by decide +kernel
theorem dX12_goesOn_110 : decode cX12_goesOn 110 = .ok (.getfield 45, 3) := by decide +kernel
theorem dX12_goesOn_113 : decode cX12_goesOn 113 = .ok (.iload 4, 2) := by decide +kernel
theorem dX12_goesOn_115 : decode cX12_goesOn 115 = .ok (.iload_n 3, 1) := by decide +kernel
theorem dX12_goesOn_116 : decode cX12_goesOn 116 = .ok (.iastore, 1) := by decide +kernel
theorem dX12_goesOn_117 : decode cX12_goesOn 117 = .ok (.aload_n 0, 1) := by decide +kernel
theorem dX12_goesOn_118 : decode cX12_goesOn 118 = .ok (.dup, 1) := by decide +kernel
theorem dX12_goesOn_119 : decode cX12_goesOn 119 = .ok (.getfield 226, 3) := by decide +kernel
theorem dX12_goesOn_122 : decode cX12_goesOn 122 = .ok (.iconst 1, 1) := by decide +kernel
theorem dX12_goesOn_123 : decode cX12_goesOn 123 = .ok (.iadd, 1) := by decide +kernel
theorem dX12_goesOn_124 : decode cX12_goesOn 124 = .ok (.putfield 226, 3) := by decide +kernel
theorem dX12_goesOn_127 : decode cX12_goesOn 127 = .ok (.aload_n 0, 1) := by decide +kernel
theorem dX12_goesOn_128 : decode cX12_goesOn 128 = .ok (.getfield 54, 3) := by decide +kernel
theorem dX12_goesOn_131 : decode cX12_goesOn 131 = .ok (.bipush 24, 2) := by decide +kernel
theorem dX12_goesOn_133 : decode cX12_goesOn 133 = .ok (.iload_n 1, 1) := by decide +kernel
theorem dX12_goesOn_134 : decode cX12_goesOn 134 = .ok (.imul, 1) := by decide +kernel
theorem dX12_goesOn_135 : decode cX12_goesOn 135 = .ok (.iload_n 2, 1) := by decide +kernel
theorem dX12_goesOn_136 : decode cX12_goesOn 136 = .ok (.iadd, 1) := by decide +kernel
theorem dX12_goesOn_137 : decode cX12_goesOn 137 = .ok (.iload 4, 2) := by decide +kernel
theorem dX12_goesOn_139 : decode cX12_goesOn 139 = .ok (.iastore, 1) := by decide +kernel
theorem dX12_goesOn_140 : decode cX12_goesOn 140 = .ok (.iinc 2 1, 3) := by decide +kernel
theorem dX12_goesOn_143 : decode cX12_goesOn 143 = .ok (.goto (-112), 3) := by decide +kernel
theorem dX12_goesOn_146 : decode cX12_goesOn 146 = .ok (.iinc 1 1, 3) := by decide +kernel
theorem dX12_goesOn_149 : decode cX12_goesOn 149 = .ok (.goto (-128), 3) := by decide +kernel
theorem dX12_goesOn_152 : decode cX12_goesOn 152 = .ok (.iconst 1, 1) := by decide +kernel
theorem dX12_goesOn_153 : decode cX12_goesOn 153 = .ok (.ireturn, 1) := by decide +kernel
theorem dX12_fars_0 : decode cX12_fars 0 = .ok (.iconst 0, 1) := by decide +kernel
theorem dX12_fars_1 : decode cX12_fars 1 = .ok (.istore_n 1, 1) := by decide +kernel
theorem dX12_fars_2 : decode cX12_fars 2 = .ok (.iload_n 1, 1) := by decide +kernel
theorem dX12_fars_3 : decode cX12_fars 3 = .ok (.aload_n 0, 1) := by decide +kernel
theorem dX12_fars_4 : decode cX12_fars 4 = .ok (.getfield 226, 3) := by decide +kernel
theorem dX12_fars_7 : decode cX12_fars 7 = .ok (.if_icmp .ge 25, 3) := by decide +kernel
theorem dX12_fars_10 : decode cX12_fars 10 = .ok (.aload_n 0, 1) := by decide +kernel
theorem dX12_fars_11 : decode cX12_fars 11 = .ok (.getfield 48, 3) := by decide +kernel
theorem dX12_fars_14 : decode cX12_fars 14 = .ok (.iload_n 1, 1) := by decide +kernel
theorem dX12_fars_15 : decode cX12_fars 15 = .ok (.iload_n 1, 1) := by decide +kernel
theorem dX12_fars_16 : decode cX12_fars 16 = .ok (.ifCond .ne 7, 3) := by decide +kernel
theorem dX12_fars_19 : decode cX12_fars 19 = .ok (.iconst 0, 1) := by decide +kernel
theorem dX12_fars_20 : decode cX12_fars 20 = .ok (.goto 5, 3) := by decide +kernel
theorem dX12_fars_23 : decode cX12_fars 23 = .ok (.ldc 183, 2) := by decide +kernel
theorem dX12_fars_25 : decode cX12_fars 25 = .ok (.iastore, 1) := by decide +kernel
theorem dX12_fars_26 : decode cX12_fars 26 = .ok (.iinc 1 1, 3) := by decide +kernel
theorem dX12_fars_29 : decode cX12_fars 29 = .ok (.goto (-27), 3) := by decide +kernel
theorem dX12_fars_32 : decode cX12_fars 32 = .ok (.iconst 1, 1) := by decide +kernel
theorem dX12_fars_33 : decode cX12_fars 33 = .ok (.istore_n 1, 1) := by decide +kernel
theorem dX12_fars_34 : decode cX12_fars 34 = .ok (.iload_n 1, 1) := by decide +kernel
theorem dX12_fars_35 : decode cX12_fars 35 = .ok (.ifCond .eq 154, 3) := by decide +kernel
theorem dX12_fars_38 : decode cX12_fars 38 = .ok (.iconst 0, 1) := by decide +kernel
theorem dX12_fars_39 : decode cX12_fars 39 = .ok (.istore_n 1, 1) := by decide +kernel
theorem dX12_fars_40 : decode cX12_fars 40 = .ok (.iconst 0, 1) := by decide +kernel
theorem dX12_fars_41 : decode cX12_fars 41 = .ok (.istore_n 2, 1) := by decide +kernel
theorem dX12_fars_42 : decode cX12_fars 42 = .ok (.iload_n 2, 1) := by decide +kernel
theorem dX12_fars_43 : decode cX12_fars 43 = .ok (.aload_n 0, 1) := by decide +kernel
theorem dX12_fars_44 : decode cX12_fars 44 = .ok (.getfield 226, 3) := by decide +kernel
theorem dX12_fars_47 : decode cX12_fars 47 = .ok (.if_icmp .ge 139, 3) := by decide +kernel
theorem dX12_fars_50 : decode cX12_fars 50 = .ok (.iconst 0, 1) := by decide +kernel
theorem dX12_fars_51 : decode cX12_fars 51 = .ok (.istore_n 3, 1) := by decide +kernel
theorem dX12_fars_52 : decode cX12_fars 52 = .ok (.iload_n 3, 1) := by decide +kernel
theorem dX12_fars_53 : decode cX12_fars 53 = .ok (.aload_n 0, 1) := by decide +kernel
theorem dX12_fars_54 : decode cX12_fars 54 = .ok (.getfield 7, 3) := by decide +kernel
theorem dX12_fars_57 : decode cX12_fars 57 = .ok (.sipush 172, 3) := by decide +kernel
theorem dX12_fars_60 : decode cX12_fars 60 = .ok (.iaload, 1) := by decide +kernel
theorem dX12_fars_61 : decode cX12_fars 61 = .ok (.if_icmp .ge 119, 3) := by decide +kernel
theorem dX12_fars_64 : decode cX12_fars 64 = .ok (.aload_n 0, 1) := by decide +kernel
theorem dX12_fars_65 : decode cX12_fars 65 = .ok (.getfield 48, 3) := by decide +kernel
theorem dX12_fars_68 : decode cX12_fars 68 = .ok (.iload_n 2, 1) := by decide +kernel
theorem dX12_fars_69 : decode cX12_fars 69 = .ok (.iaload, 1) := by decide +kernel
theorem dX12_fars_70 : decode cX12_fars 70 = .ok (.ldc 183, 2) := by decide +kernel
theorem dX12_fars_72 : decode cX12_fars 72 = .ok (.if_icmp .ge 108, 3) := by decide +kernel
theorem dX12_fars_75 : decode cX12_fars 75 = .ok (.aload_n 0, 1) := by decide +kernel
theorem dX12_fars_76 : decode cX12_fars 76 = .ok (.getfield 54, 3) := by decide +kernel
theorem dX12_fars_79 : decode cX12_fars 79 = .ok (.bipush 24, 2) := by decide +kernel
theorem dX12_fars_81 : decode cX12_fars 81 = .ok (.iload_n 2, 1) := by decide +kernel
theorem dX12_fars_82 : decode cX12_fars 82 = .ok (.imul, 1) := by decide +kernel
theorem dX12_fars_83 : decode cX12_fars 83 = .ok (.iload_n 3, 1) := by decide +kernel
theorem dX12_fars_84 : decode cX12_fars 84 = .ok (.iadd, 1) := by decide +kernel
theorem dX12_fars_85 : decode cX12_fars 85 = .ok (.iaload, 1) := by decide +kernel
theorem dX12_fars_86 : decode cX12_fars 86 = .ok (.istore 4, 2) := by decide +kernel
theorem dX12_fars_88 : decode cX12_fars 88 = .ok (.aload_n 0, 1) := by decide +kernel
theorem dX12_fars_89 : decode cX12_fars 89 = .ok (.getfield 48, 3) := by decide +kernel
theorem dX12_fars_92 : decode cX12_fars 92 = .ok (.iload_n 2, 1) := by decide +kernel
theorem dX12_fars_93 : decode cX12_fars 93 = .ok (.iaload, 1) := by decide +kernel
theorem dX12_fars_94 : decode cX12_fars 94 = .ok (.aload_n 0, 1) := by decide +kernel
theorem dX12_fars_95 : decode cX12_fars 95 = .ok (.getfield 7, 3) := by decide +kernel
theorem dX12_fars_98 : decode cX12_fars 98 = .ok (.bipush 72, 2) := by decide +kernel
theorem dX12_fars_100 : decode cX12_fars 100 = .ok (.iload_n 3, 1) := by decide +kernel
theorem dX12_fars_101 : decode cX12_fars 101 = .ok (.iadd, 1) := by decide +kernel
theorem dX12_fars_102 : decode cX12_fars 102 = .ok (.iaload, 1) := by decide +kernel
theorem dX12_fars_103 : decode cX12_fars 103 = .ok (.iadd, 1) := by decide +kernel
theorem dX12_fars_104 : decode cX12_fars 104 = .ok (.aload_n 0, 1) := by decide +kernel
theorem dX12_fars_105 : decode cX12_fars 105 = .ok (.getfield 48, 3) := by decide +kernel
theorem dX12_fars_108 : decode cX12_fars 108 = .ok (.iload 4, 2) := by decide +kernel
theorem dX12_fars_110 : decode cX12_fars 110 = .ok (.iaload, 1) := by decide +kernel
theorem dX12_fars_111 : decode cX12_fars 111 = .ok (.if_icmp .ge 7, 3) := by decide +kernel
theorem dX12_fars_114 : decode cX12_fars 114 = .ok (.iconst 1, 1) := by decide +kernel
theorem dX12_fars_115 : decode cX12_fars 115 = .ok (.goto 4, 3) := by decide +kernel
theorem dX12_fars_118 : decode cX12_fars 118 = .ok (.iconst 0, 1) := by decide +kernel
theorem dX12_fars_119 : decode cX12_fars 119 = .ok (.istore 5, 2) := by decide +kernel
theorem dX12_fars_121 : decode cX12_fars 121 = .ok (.aload_n 0, 1) := by decide +kernel
theorem dX12_fars_122 : decode cX12_fars 122 = .ok (.getfield 48, 3) := by decide +kernel
theorem dX12_fars_125 : decode cX12_fars 125 = .ok (.iload 4, 2) := by decide +kernel
theorem dX12_fars_127 : decode cX12_fars 127 = .ok (.iload 5, 2) := by decide +kernel
theorem dX12_fars_129 : decode cX12_fars 129 = .ok (.ifCond .eq 22, 3) := by decide +kernel
theorem dX12_fars_132 : decode cX12_fars 132 = .ok (.aload_n 0, 1) := by decide +kernel
theorem dX12_fars_133 : decode cX12_fars 133 = .ok (.getfield 48, 3) := by decide +kernel
theorem dX12_fars_136 : decode cX12_fars 136 = .ok (.iload_n 2, 1) := by decide +kernel
theorem dX12_fars_137 : decode cX12_fars 137 = .ok (.iaload, 1) := by decide +kernel
theorem dX12_fars_138 : decode cX12_fars 138 = .ok (.aload_n 0, 1) := by decide +kernel
theorem dX12_fars_139 : decode cX12_fars 139 = .ok (.getfield 7, 3) := by decide +kernel
theorem dX12_fars_142 : decode cX12_fars 142 = .ok (.bipush 72, 2) := by decide +kernel
theorem dX12_fars_144 : decode cX12_fars 144 = .ok (.iload_n 3, 1) := by decide +kernel
theorem dX12_fars_145 : decode cX12_fars 145 = .ok (.iadd, 1) := by decide +kernel
theorem dX12_fars_146 : decode cX12_fars 146 = .ok (.iaload, 1) := by decide +kernel
theorem dX12_fars_147 : decode cX12_fars 147 = .ok (.iadd, 1) := by decide +kernel
theorem dX12_fars_148 : decode cX12_fars 148 = .ok (.goto 10, 3) := by decide +kernel
theorem dX12_fars_151 : decode cX12_fars 151 = .ok (.aload_n 0, 1) := by decide +kernel
theorem dX12_fars_152 : decode cX12_fars 152 = .ok (.getfield 48, 3) := by decide +kernel
theorem dX12_fars_155 : decode cX12_fars 155 = .ok (.iload 4, 2) := by decide +kernel
theorem dX12_fars_157 : decode cX12_fars 157 = .ok (.iaload, 1) := by decide +kernel
theorem dX12_fars_158 : decode cX12_fars 158 = .ok (.iastore, 1) := by decide +kernel
theorem dX12_fars_159 : decode cX12_fars 159 = .ok (.iload_n 1, 1) := by decide +kernel
theorem dX12_fars_160 : decode cX12_fars 160 = .ok (.ifCond .ne 8, 3) := by decide +kernel
theorem dX12_fars_163 : decode cX12_fars 163 = .ok (.iload 5, 2) := by decide +kernel
theorem dX12_fars_165 : decode cX12_fars 165 = .ok (.ifCond .eq 7, 3) := by decide +kernel
theorem dX12_fars_168 : decode cX12_fars 168 = .ok (.iconst 1, 1) := by decide +kernel
theorem dX12_fars_169 : decode cX12_fars 169 = .ok (.goto 4, 3) := by decide +kernel
theorem dX12_fars_172 : decode cX12_fars 172 = .ok (.iconst 0, 1) := by decide +kernel
theorem dX12_fars_173 : decode cX12_fars 173 = .ok (.istore_n 1, 1) := by decide +kernel
theorem dX12_fars_174 : decode cX12_fars 174 = .ok (.iinc 3 1, 3) := by decide +kernel
theorem dX12_fars_177 : decode cX12_fars 177 = .ok (.goto (-125), 3) := by decide +kernel
theorem dX12_fars_180 : decode cX12_fars 180 = .ok (.iinc 2 1, 3) := by decide +kernel
theorem dX12_fars_183 : decode cX12_fars 183 = .ok (.goto (-141), 3) := by decide +kernel
theorem dX12_fars_186 : decode cX12_fars 186 = .ok (.goto (-152), 3) := by decide +kernel
theorem dX12_fars_189 : decode cX12_fars 189 = .ok (.return_, 1) := by decide +kernel
theorem dX12_lefts_0 : decode cX12_lefts 0 = .ok (.iconst 0, 1) := by decide +kernel
theorem dX12_lefts_1 : decode cX12_lefts 1 = .ok (.istore_n 1, 1) := by decide +kernel
theorem dX12_lefts_2 : decode cX12_lefts 2 = .ok (.iload_n 1, 1) := by decide +kernel
theorem dX12_lefts_3 : decode cX12_lefts 3 = .ok (.aload_n 0, 1) := by decide +kernel
theorem dX12_lefts_4 : decode cX12_lefts 4 = .ok (.getfield 226, 3) := by decide +kernel
theorem dX12_lefts_7 : decode cX12_lefts 7 = .ok (.if_icmp .ge 41, 3) := by decide +kernel
theorem dX12_lefts_10 : decode cX12_lefts 10 = .ok (.aload_n 0, 1) := by decide +kernel
theorem dX12_lefts_11 : decode cX12_lefts 11 = .ok (.getfield 51, 3) := by decide +kernel
theorem dX12_lefts_14 : decode cX12_lefts 14 = .ok (.iload_n 1, 1) := by decide +kernel
theorem dX12_lefts_15 : decode cX12_lefts 15 = .ok (.aload_n 0, 1) := by decide +kernel
theorem dX12_lefts_16 : decode cX12_lefts 16 = .ok (.getfield 45, 3) := by decide +kernel
theorem dX12_lefts_19 : decode cX12_lefts 19 = .ok (.iload_n 1, 1) := by decide +kernel
theorem dX12_lefts_20 : decode cX12_lefts 20 = .ok (.iaload, 1) := by decide +kernel
theorem dX12_lefts_21 : decode cX12_lefts 21 = .ok (.aload_n 0, 1) := by decide +kernel
theorem dX12_lefts_22 : decode cX12_lefts 22 = .ok (.getfield 7, 3) := by decide +kernel
theorem dX12_lefts_25 : decode cX12_lefts 25 = .ok (.sipush 169, 3) := by decide +kernel
theorem dX12_lefts_28 : decode cX12_lefts 28 = .ok (.iaload, 1) := by decide +kernel
theorem dX12_lefts_29 : decode cX12_lefts 29 = .ok (.invokestatic 161, 3) := by decide +kernel
theorem dX12_lefts_32 : decode cX12_lefts 32 = .ok (.ifCond .eq 7, 3) := by decide +kernel
theorem dX12_lefts_35 : decode cX12_lefts 35 = .ok (.iconst 0, 1) := by decide +kernel
theorem dX12_lefts_36 : decode cX12_lefts 36 = .ok (.goto 5, 3) := by decide +kernel
theorem dX12_lefts_39 : decode cX12_lefts 39 = .ok (.ldc 183, 2) := by decide +kernel
theorem dX12_lefts_41 : decode cX12_lefts 41 = .ok (.iastore, 1) := by decide +kernel
theorem dX12_lefts_42 : decode cX12_lefts 42 = .ok (.iinc 1 1, 3) := by decide +kernel
theorem dX12_lefts_45 : decode cX12_lefts 45 = .ok (.goto (-43), 3) := by decide +kernel
theorem dX12_lefts_48 : decode cX12_lefts 48 = .ok (.iconst 1, 1) := by decide +kernel
theorem dX12_lefts_49 : decode cX12_lefts 49 = .ok (.istore_n 1, 1) := by decide +kernel
theorem dX12_lefts_50 : decode cX12_lefts 50 = .ok (.iload_n 1, 1) := by decide +kernel
theorem dX12_lefts_51 : decode cX12_lefts 51 = .ok (.ifCond .eq 138, 3) := by decide +kernel
theorem dX12_lefts_54 : decode cX12_lefts 54 = .ok (.iconst 0, 1) := by decide +kernel
theorem dX12_lefts_55 : decode cX12_lefts 55 = .ok (.istore_n 1, 1) := by decide +kernel
theorem dX12_lefts_56 : decode cX12_lefts 56 = .ok (.aload_n 0, 1) := by decide +kernel
theorem dX12_lefts_57 : decode cX12_lefts 57 = .ok (.getfield 226, 3) := by decide +kernel
theorem dX12_lefts_60 : decode cX12_lefts 60 = .ok (.iconst 1, 1) := by decide +kernel
theorem dX12_lefts_61 : decode cX12_lefts 61 = .ok (.isub, 1) := by decide +kernel
theorem dX12_lefts_62 : decode cX12_lefts 62 = .ok (.istore_n 2, 1) := by decide +kernel
theorem dX12_lefts_63 : decode cX12_lefts 63 = .ok (.iload_n 2, 1) := by decide +kernel
theorem dX12_lefts_64 : decode cX12_lefts 64 = .ok (.ifCond .lt 122, 3) := by decide +kernel
theorem dX12_lefts_67 : decode cX12_lefts 67 = .ok (.iconst 0, 1) := by decide +kernel
theorem dX12_lefts_68 : decode cX12_lefts 68 = .ok (.istore_n 3, 1) := by decide +kernel
theorem dX12_lefts_69 : decode cX12_lefts 69 = .ok (.iload_n 3, 1) := by decide +kernel
theorem dX12_lefts_70 : decode cX12_lefts 70 = .ok (.aload_n 0, 1) := by decide +kernel
theorem dX12_lefts_71 : decode cX12_lefts 71 = .ok (.getfield 7, 3) := by decide +kernel
theorem dX12_lefts_74 : decode cX12_lefts 74 = .ok (.sipush 172, 3) := by decide +kernel
theorem dX12_lefts_77 : decode cX12_lefts 77 = .ok (.iaload, 1) := by decide +kernel
theorem dX12_lefts_78 : decode cX12_lefts 78 = .ok (.if_icmp .ge 102, 3) := by decide +kernel
theorem dX12_lefts_81 : decode cX12_lefts 81 = .ok (.aload_n 0, 1) := by decide +kernel
theorem dX12_lefts_82 : decode cX12_lefts 82 = .ok (.getfield 54, 3) := by decide +kernel
theorem dX12_lefts_85 : decode cX12_lefts 85 = .ok (.bipush 24, 2) := by decide +kernel
theorem dX12_lefts_87 : decode cX12_lefts 87 = .ok (.iload_n 2, 1) := by decide +kernel
theorem dX12_lefts_88 : decode cX12_lefts 88 = .ok (.imul, 1) := by decide +kernel
theorem dX12_lefts_89 : decode cX12_lefts 89 = .ok (.iload_n 3, 1) := by decide +kernel
theorem dX12_lefts_90 : decode cX12_lefts 90 = .ok (.iadd, 1) := by decide +kernel
theorem dX12_lefts_91 : decode cX12_lefts 91 = .ok (.iaload, 1) := by decide +kernel
theorem dX12_lefts_92 : decode cX12_lefts 92 = .ok (.istore 4, 2) := by decide +kernel
theorem dX12_lefts_94 : decode cX12_lefts 94 = .ok (.aload_n 0, 1) := by decide +kernel
theorem dX12_lefts_95 : decode cX12_lefts 95 = .ok (.getfield 51, 3) := by decide +kernel
theorem dX12_lefts_98 : decode cX12_lefts 98 = .ok (.iload 4, 2) := by decide +kernel
theorem dX12_lefts_100 : decode cX12_lefts 100 = .ok (.iaload, 1) := by decide +kernel
theorem dX12_lefts_101 : decode cX12_lefts 101 = .ok (.sipush 1000, 3) := by decide +kernel
theorem dX12_lefts_104 : decode cX12_lefts 104 = .ok (.aload_n 0, 1) := by decide +kernel
theorem dX12_lefts_105 : decode cX12_lefts 105 = .ok (.getfield 7, 3) := by decide +kernel
theorem dX12_lefts_108 : decode cX12_lefts 108 = .ok (.bipush 72, 2) := by decide +kernel
theorem dX12_lefts_110 : decode cX12_lefts 110 = .ok (.iload_n 3, 1) := by decide +kernel
theorem dX12_lefts_111 : decode cX12_lefts 111 = .ok (.iadd, 1) := by decide +kernel
theorem dX12_lefts_112 : decode cX12_lefts 112 = .ok (.iaload, 1) := by decide +kernel
theorem dX12_lefts_113 : decode cX12_lefts 113 = .ok (.imul, 1) := by decide +kernel
theorem dX12_lefts_114 : decode cX12_lefts 114 = .ok (.iadd, 1) := by decide +kernel
theorem dX12_lefts_115 : decode cX12_lefts 115 = .ok (.iconst 1, 1) := by decide +kernel
theorem dX12_lefts_116 : decode cX12_lefts 116 = .ok (.iadd, 1) := by decide +kernel
theorem dX12_lefts_117 : decode cX12_lefts 117 = .ok (.istore 5, 2) := by decide +kernel
theorem dX12_lefts_119 : decode cX12_lefts 119 = .ok (.iload 5, 2) := by decide +kernel
theorem dX12_lefts_121 : decode cX12_lefts 121 = .ok (.aload_n 0, 1) := by decide +kernel
theorem dX12_lefts_122 : decode cX12_lefts 122 = .ok (.getfield 51, 3) := by decide +kernel
theorem dX12_lefts_125 : decode cX12_lefts 125 = .ok (.iload_n 2, 1) := by decide +kernel
theorem dX12_lefts_126 : decode cX12_lefts 126 = .ok (.iaload, 1) := by decide +kernel
theorem dX12_lefts_127 : decode cX12_lefts 127 = .ok (.if_icmp .ge 7, 3) := by decide +kernel
theorem dX12_lefts_130 : decode cX12_lefts 130 = .ok (.iconst 1, 1) := by decide +kernel
theorem dX12_lefts_131 : decode cX12_lefts 131 = .ok (.goto 4, 3) := by decide +kernel
theorem dX12_lefts_134 : decode cX12_lefts 134 = .ok (.iconst 0, 1) := by decide +kernel
theorem dX12_lefts_135 : decode cX12_lefts 135 = .ok (.istore 6, 2) := by decide +kernel
theorem dX12_lefts_137 : decode cX12_lefts 137 = .ok (.aload_n 0, 1) := by decide +kernel
theorem dX12_lefts_138 : decode cX12_lefts 138 = .ok (.getfield 51, 3) := by decide +kernel
theorem dX12_lefts_141 : decode cX12_lefts 141 = .ok (.iload_n 2, 1) := by decide +kernel
theorem dX12_lefts_142 : decode cX12_lefts 142 = .ok (.iload 6, 2) := by decide +kernel
theorem dX12_lefts_144 : decode cX12_lefts 144 = .ok (.ifCond .eq 8, 3) := by decide +kernel
theorem dX12_lefts_147 : decode cX12_lefts 147 = .ok (.iload 5, 2) := by decide +kernel
theorem dX12_lefts_149 : decode cX12_lefts 149 = .ok (.goto 9, 3) := by decide +kernel
theorem dX12_lefts_152 : decode cX12_lefts 152 = .ok (.aload_n 0, 1) := by decide +kernel
theorem dX12_lefts_153 : decode cX12_lefts 153 = .ok (.getfield 51, 3) := by decide +kernel
theorem dX12_lefts_156 : decode cX12_lefts 156 = .ok (.iload_n 2, 1) := by decide +kernel
theorem dX12_lefts_157 : decode cX12_lefts 157 = .ok (.iaload, 1) := by decide +kernel
theorem dX12_lefts_158 : decode cX12_lefts 158 = .ok (.iastore, 1) := by decide +kernel
theorem dX12_lefts_159 : decode cX12_lefts 159 = .ok (.iload_n 1, 1) := by decide +kernel
theorem dX12_lefts_160 : decode cX12_lefts 160 = .ok (.ifCond .ne 8, 3) := by decide +kernel
theorem dX12_lefts_163 : decode cX12_lefts 163 = .ok (.iload 6, 2) := by decide +kernel
theorem dX12_lefts_165 : decode cX12_lefts 165 = .ok (.ifCond .eq 7, 3) := by decide +kernel
theorem dX12_lefts_168 : decode cX12_lefts 168 = .ok (.iconst 1, 1) := by decide +kernel
theorem dX12_lefts_169 : decode cX12_lefts 169 = .ok (.goto 4, 3) := by decide +kernel
theorem dX12_lefts_172 : decode cX12_lefts 172 = .ok (.iconst 0, 1) := by decide +kernel
theorem dX12_lefts_173 : decode cX12_lefts 173 = .ok (.istore_n 1, 1) := by decide +kernel
theorem dX12_lefts_174 : decode cX12_lefts 174 = .ok (.iinc 3 1, 3) := by decide +kernel
theorem dX12_lefts_177 : decode cX12_lefts 177 = .ok (.goto (-108), 3) := by decide +kernel
theorem dX12_lefts_180 : decode cX12_lefts 180 = .ok (.iinc 2 (-1), 3) := by decide +kernel
theorem dX12_lefts_183 : decode cX12_lefts 183 = .ok (.goto (-120), 3) := by decide +kernel
theorem dX12_lefts_186 : decode cX12_lefts 186 = .ok (.goto (-136), 3) := by decide +kernel
theorem dX12_lefts_189 : decode cX12_lefts 189 = .ok (.return_, 1) := by decide +kernel
theorem dX12_reached_0 : decode cX12_reached 0 = .ok (.aload_n 0, 1) := by decide +kernel
theorem dX12_reached_1 : decode cX12_reached 1 = .ok (.invokevirtual 232, 3) := by decide +kernel
theorem dX12_reached_4 : decode cX12_reached 4 = .ok (.ifCond .eq 10, 3) := by decide +kernel
theorem dX12_reached_7 : decode cX12_reached 7 = .ok (.aload_n 0, 1) := by decide +kernel
theorem dX12_reached_8 : decode cX12_reached 8 = .ok (.getfield 226, 3) := by decide +kernel
theorem dX12_reached_11 : decode cX12_reached 11 = .ok (.goto 4, 3) := by decide +kernel
theorem dX12_reached_14 : decode cX12_reached 14 = .ok (.iconst 0, 1) := by decide +kernel
theorem dX12_reached_15 : decode cX12_reached 15 = .ok (.ireturn, 1) := by decide +kernel
theorem dX12_state_0 : decode cX12_state 0 = .ok (.aload_n 0, 1) := by decide +kernel
theorem dX12_state_1 : decode cX12_state 1 = .ok (.invokevirtual 232, 3) := by decide +kernel
theorem dX12_state_4 : decode cX12_state 4 = .ok (.ifCond .eq 26, 3) := by decide +kernel
theorem dX12_state_7 : decode cX12_state 7 = .ok (.iload_n 1, 1) := by decide +kernel
theorem dX12_state_8 : decode cX12_state 8 = .ok (.iconst 0, 1) := by decide +kernel
theorem dX12_state_9 : decode cX12_state 9 = .ok (.aload_n 0, 1) := by decide +kernel
theorem dX12_state_10 : decode cX12_state 10 = .ok (.getfield 226, 3) := by decide +kernel
theorem dX12_state_13 : decode cX12_state 13 = .ok (.iconst 1, 1) := by decide +kernel
theorem dX12_state_14 : decode cX12_state 14 = .ok (.isub, 1) := by decide +kernel
theorem dX12_state_15 : decode cX12_state 15 = .ok (.invokestatic 67, 3) := by decide +kernel
theorem dX12_state_18 : decode cX12_state 18 = .ok (.ifCond .eq 12, 3) := by decide +kernel
theorem dX12_state_21 : decode cX12_state 21 = .ok (.aload_n 0, 1) := by decide +kernel
theorem dX12_state_22 : decode cX12_state 22 = .ok (.getfield 45, 3) := by decide +kernel
theorem dX12_state_25 : decode cX12_state 25 = .ok (.iload_n 1, 1) := by decide +kernel
theorem dX12_state_26 : decode cX12_state 26 = .ok (.iaload, 1) := by decide +kernel
theorem dX12_state_27 : decode cX12_state 27 = .ok (.goto 9, 3) := by decide +kernel
theorem dX12_state_30 : decode cX12_state 30 = .ok (.aload_n 0, 1) := by decide +kernel
theorem dX12_state_31 : decode cX12_state 31 = .ok (.bipush (-5), 2) := by decide +kernel
theorem dX12_state_33 : decode cX12_state 33 = .ok (.invokevirtual 75, 3) := by decide +kernel
theorem dX12_state_36 : decode cX12_state 36 = .ok (.ireturn, 1) := by decide +kernel
theorem dX12_far_0 : decode cX12_far 0 = .ok (.aload_n 0, 1) := by decide +kernel
theorem dX12_far_1 : decode cX12_far 1 = .ok (.invokevirtual 232, 3) := by decide +kernel
theorem dX12_far_4 : decode cX12_far 4 = .ok (.ifCond .eq 17, 3) := by decide +kernel
theorem dX12_far_7 : decode cX12_far 7 = .ok (.iload_n 1, 1) := by decide +kernel
theorem dX12_far_8 : decode cX12_far 8 = .ok (.iconst 0, 1) := by decide +kernel
theorem dX12_far_9 : decode cX12_far 9 = .ok (.aload_n 0, 1) := by decide +kernel
theorem dX12_far_10 : decode cX12_far 10 = .ok (.getfield 226, 3) := by decide +kernel
theorem dX12_far_13 : decode cX12_far 13 = .ok (.iconst 1, 1) := by decide +kernel
theorem dX12_far_14 : decode cX12_far 14 = .ok (.isub, 1) := by decide +kernel
theorem dX12_far_15 : decode cX12_far 15 = .ok (.invokestatic 67, 3) := by decide +kernel
theorem dX12_far_18 : decode cX12_far 18 = .ok (.ifCond .ne 10, 3) := by decide +kernel
theorem dX12_far_21 : decode cX12_far 21 = .ok (.aload_n 0, 1) := by decide +kernel
theorem dX12_far_22 : decode cX12_far 22 = .ok (.bipush (-5), 2) := by decide +kernel
theorem dX12_far_24 : decode cX12_far 24 = .ok (.invokevirtual 75, 3) := by decide +kernel
theorem dX12_far_27 : decode cX12_far 27 = .ok (.ireturn, 1) := by decide +kernel
theorem dX12_far_28 : decode cX12_far 28 = .ok (.aload_n 0, 1) := by decide +kernel
theorem dX12_far_29 : decode cX12_far 29 = .ok (.invokevirtual 235, 3) := by decide +kernel
theorem dX12_far_32 : decode cX12_far 32 = .ok (.aload_n 0, 1) := by decide +kernel
theorem dX12_far_33 : decode cX12_far 33 = .ok (.getfield 48, 3) := by decide +kernel
theorem dX12_far_36 : decode cX12_far 36 = .ok (.iload_n 1, 1) := by decide +kernel
theorem dX12_far_37 : decode cX12_far 37 = .ok (.iaload, 1) := by decide +kernel
theorem dX12_far_38 : decode cX12_far 38 = .ok (.ireturn, 1) := by decide +kernel
theorem dX12_numberOf_0 : decode cX12_numberOf 0 = .ok (.aload_n 0, 1) := by decide +kernel
theorem dX12_numberOf_1 : decode cX12_numberOf 1 = .ok (.invokevirtual 232, 3) := by decide +kernel
theorem dX12_numberOf_4 : decode cX12_numberOf 4 = .ok (.ifCond .ne 10, 3) := by decide +kernel
theorem dX12_numberOf_7 : decode cX12_numberOf 7 = .ok (.aload_n 0, 1) := by decide +kernel
theorem dX12_numberOf_8 : decode cX12_numberOf 8 = .ok (.bipush (-5), 2) := by decide +kernel
theorem dX12_numberOf_10 : decode cX12_numberOf 10 = .ok (.invokevirtual 177, 3) := by decide +kernel
theorem dX12_numberOf_13 : decode cX12_numberOf 13 = .ok (.ireturn, 1) := by decide +kernel
theorem dX12_numberOf_14 : decode cX12_numberOf 14 = .ok (.iload_n 1, 1) := by decide +kernel
theorem dX12_numberOf_15 : decode cX12_numberOf 15 = .ok (.invokestatic 91, 3) := by decide +kernel
theorem dX12_numberOf_18 : decode cX12_numberOf 18 = .ok (.ifCond .eq 11, 3) := by decide +kernel
theorem dX12_numberOf_21 : decode cX12_numberOf 21 = .ok (.aload_n 0, 1) := by decide +kernel
theorem dX12_numberOf_22 : decode cX12_numberOf 22 = .ok (.iload_n 1, 1) := by decide +kernel
theorem dX12_numberOf_23 : decode cX12_numberOf 23 = .ok (.invokevirtual 229, 3) := by decide +kernel
theorem dX12_numberOf_26 : decode cX12_numberOf 26 = .ok (.goto 9, 3) := by decide +kernel
theorem dX12_numberOf_29 : decode cX12_numberOf 29 = .ok (.aload_n 0, 1) := by decide +kernel
theorem dX12_numberOf_30 : decode cX12_numberOf 30 = .ok (.bipush (-6), 2) := by decide +kernel
theorem dX12_numberOf_32 : decode cX12_numberOf 32 = .ok (.invokevirtual 177, 3) := by decide +kernel
theorem dX12_numberOf_35 : decode cX12_numberOf 35 = .ok (.ireturn, 1) := by decide +kernel
theorem dX12_excluded_0 : decode cX12_excluded 0 = .ok (.iload_n 1, 1) := by decide +kernel
theorem dX12_excluded_1 : decode cX12_excluded 1 = .ok (.invokestatic 174, 3) := by decide +kernel
theorem dX12_excluded_4 : decode cX12_excluded 4 = .ok (.ifCond .ne 9, 3) := by decide +kernel
theorem dX12_excluded_7 : decode cX12_excluded 7 = .ok (.aload_n 0, 1) := by decide +kernel
theorem dX12_excluded_8 : decode cX12_excluded 8 = .ok (.iconst (-1), 1) := by decide +kernel
theorem dX12_excluded_9 : decode cX12_excluded 9 = .ok (.invokevirtual 75, 3) := by decide +kernel
theorem dX12_excluded_12 : decode cX12_excluded 12 = .ok (.ireturn, 1) := by decide +kernel
theorem dX12_excluded_13 : decode cX12_excluded 13 = .ok (.aload_n 0, 1) := by decide +kernel
theorem dX12_excluded_14 : decode cX12_excluded 14 = .ok (.invokevirtual 232, 3) := by decide +kernel
theorem dX12_excluded_17 : decode cX12_excluded 17 = .ok (.ifCond .ne 10, 3) := by decide +kernel
theorem dX12_excluded_20 : decode cX12_excluded 20 = .ok (.aload_n 0, 1) := by decide +kernel
theorem dX12_excluded_21 : decode cX12_excluded 21 = .ok (.bipush (-5), 2) := by decide +kernel
theorem dX12_excluded_23 : decode cX12_excluded 23 = .ok (.invokevirtual 75, 3) := by decide +kernel
theorem dX12_excluded_26 : decode cX12_excluded 26 = .ok (.ireturn, 1) := by decide +kernel
theorem dX12_excluded_27 : decode cX12_excluded 27 = .ok (.iconst 0, 1) := by decide +kernel
theorem dX12_excluded_28 : decode cX12_excluded 28 = .ok (.istore_n 2, 1) := by decide +kernel
theorem dX12_excluded_29 : decode cX12_excluded 29 = .ok (.iconst 0, 1) := by decide +kernel
theorem dX12_excluded_30 : decode cX12_excluded 30 = .ok (.istore_n 3, 1) := by decide +kernel
theorem dX12_excluded_31 : decode cX12_excluded 31 = .ok (.iload_n 3, 1) := by decide +kernel
theorem dX12_excluded_32 : decode cX12_excluded 32 = .ok (.aload_n 0, 1) := by decide +kernel
theorem dX12_excluded_33 : decode cX12_excluded 33 = .ok (.getfield 226, 3) := by decide +kernel
theorem dX12_excluded_36 : decode cX12_excluded 36 = .ok (.if_icmp .ge 36, 3) := by decide +kernel
theorem dX12_excluded_39 : decode cX12_excluded 39 = .ok (.iload_n 2, 1) := by decide +kernel
theorem dX12_excluded_40 : decode cX12_excluded 40 = .ok (.aload_n 0, 1) := by decide +kernel
theorem dX12_excluded_41 : decode cX12_excluded 41 = .ok (.getfield 45, 3) := by decide +kernel
theorem dX12_excluded_44 : decode cX12_excluded 44 = .ok (.iload_n 3, 1) := by decide +kernel
theorem dX12_excluded_45 : decode cX12_excluded 45 = .ok (.iaload, 1) := by decide +kernel
theorem dX12_excluded_46 : decode cX12_excluded 46 = .ok (.iload_n 1, 1) := by decide +kernel
theorem dX12_excluded_47 : decode cX12_excluded 47 = .ok (.ishr, 1) := by decide +kernel
theorem dX12_excluded_48 : decode cX12_excluded 48 = .ok (.iconst 1, 1) := by decide +kernel
theorem dX12_excluded_49 : decode cX12_excluded 49 = .ok (.iand, 1) := by decide +kernel
theorem dX12_excluded_50 : decode cX12_excluded 50 = .ok (.iconst 1, 1) := by decide +kernel
theorem dX12_excluded_51 : decode cX12_excluded 51 = .ok (.if_icmp .ne 12, 3) := by decide +kernel
theorem dX12_excluded_54 : decode cX12_excluded 54 = .ok (.aload_n 0, 1) := by decide +kernel
theorem dX12_excluded_55 : decode cX12_excluded 55 = .ok (.getfield 45, 3) := by decide +kernel
theorem dX12_excluded_58 : decode cX12_excluded 58 = .ok (.iload_n 3, 1) := by decide +kernel
theorem dX12_excluded_59 : decode cX12_excluded 59 = .ok (.iaload, 1) := by decide +kernel
theorem dX12_excluded_60 : decode cX12_excluded 60 = .ok (.goto 4, 3) := by decide +kernel
theorem dX12_excluded_63 : decode cX12_excluded 63 = .ok (.iconst 0, 1) := by decide +kernel
theorem dX12_excluded_64 : decode cX12_excluded 64 = .ok (.ior, 1) := by decide +kernel
theorem dX12_excluded_65 : decode cX12_excluded 65 = .ok (.istore_n 2, 1) := by decide +kernel
theorem dX12_excluded_66 : decode cX12_excluded 66 = .ok (.iinc 3 1, 3) := by decide +kernel
theorem dX12_excluded_69 : decode cX12_excluded 69 = .ok (.goto (-38), 3) := by decide +kernel
theorem dX12_excluded_72 : decode cX12_excluded 72 = .ok (.ldc 66, 2) := by decide +kernel
theorem dX12_excluded_74 : decode cX12_excluded 74 = .ok (.iload_n 2, 1) := by decide +kernel
theorem dX12_excluded_75 : decode cX12_excluded 75 = .ok (.iconst (-1), 1) := by decide +kernel
theorem dX12_excluded_76 : decode cX12_excluded 76 = .ok (.ixor, 1) := by decide +kernel
theorem dX12_excluded_77 : decode cX12_excluded 77 = .ok (.iand, 1) := by decide +kernel
theorem dX12_excluded_78 : decode cX12_excluded 78 = .ok (.ireturn, 1) := by decide +kernel
theorem dX12_isPlanned_0 : decode cX12_isPlanned 0 = .ok (.aload_n 0, 1) := by decide +kernel
theorem dX12_isPlanned_1 : decode cX12_isPlanned 1 = .ok (.invokevirtual 238, 3) := by decide +kernel
theorem dX12_isPlanned_4 : decode cX12_isPlanned 4 = .ok (.aload_n 0, 1) := by decide +kernel
theorem dX12_isPlanned_5 : decode cX12_isPlanned 5 = .ok (.iconst 0, 1) := by decide +kernel
theorem dX12_isPlanned_6 : decode cX12_isPlanned 6 = .ok (.putfield 241, 3) := by decide +kernel
theorem dX12_isPlanned_9 : decode cX12_isPlanned 9 = .ok (.aload_n 0, 1) := by decide +kernel
theorem dX12_isPlanned_10 : decode cX12_isPlanned 10 = .ok (.getfield 51, 3) := by decide +kernel
theorem dX12_isPlanned_13 : decode cX12_isPlanned 13 = .ok (.iconst 0, 1) := by decide +kernel
theorem dX12_isPlanned_14 : decode cX12_isPlanned 14 = .ok (.iaload, 1) := by decide +kernel
theorem dX12_isPlanned_15 : decode cX12_isPlanned 15 = .ok (.ldc 183, 2) := by decide +kernel
theorem dX12_isPlanned_17 : decode cX12_isPlanned 17 = .ok (.if_icmp .lt 5, 3) := by decide +kernel
theorem dX12_isPlanned_20 : decode cX12_isPlanned 20 = .ok (.iconst 0, 1) := by decide +kernel
theorem dX12_isPlanned_21 : decode cX12_isPlanned 21 = .ok (.ireturn, 1) := by decide +kernel
theorem dX12_isPlanned_22 : decode cX12_isPlanned 22 = .ok (.iconst 0, 1) := by decide +kernel
theorem dX12_isPlanned_23 : decode cX12_isPlanned 23 = .ok (.istore_n 1, 1) := by decide +kernel
theorem dX12_isPlanned_24 : decode cX12_isPlanned 24 = .ok (.aload_n 0, 1) := by decide +kernel
theorem dX12_isPlanned_25 : decode cX12_isPlanned 25 = .ok (.getfield 51, 3) := by decide +kernel
theorem dX12_isPlanned_28 : decode cX12_isPlanned 28 = .ok (.iload_n 1, 1) := by decide +kernel
theorem dX12_isPlanned_29 : decode cX12_isPlanned 29 = .ok (.iaload, 1) := by decide +kernel
theorem dX12_isPlanned_30 : decode cX12_isPlanned 30 = .ok (.ifCond .le 87, 3) := by decide +kernel
theorem dX12_isPlanned_33 : decode cX12_isPlanned 33 = .ok (.iconst 0, 1) := by decide +kernel
theorem dX12_isPlanned_34 : decode cX12_isPlanned 34 = .ok (.istore_n 2, 1) := by decide +kernel
theorem dX12_isPlanned_35 : decode cX12_isPlanned 35 = .ok (.aload_n 0, 1) := by decide +kernel
theorem dX12_isPlanned_36 : decode cX12_isPlanned 36 = .ok (.getfield 51, 3) := by decide +kernel
theorem dX12_isPlanned_39 : decode cX12_isPlanned 39 = .ok (.aload_n 0, 1) := by decide +kernel
theorem dX12_isPlanned_40 : decode cX12_isPlanned 40 = .ok (.getfield 54, 3) := by decide +kernel
theorem dX12_isPlanned_43 : decode cX12_isPlanned 43 = .ok (.bipush 24, 2) := by decide +kernel
theorem dX12_isPlanned_45 : decode cX12_isPlanned 45 = .ok (.iload_n 1, 1) := by decide +kernel
theorem dX12_isPlanned_46 : decode cX12_isPlanned 46 = .ok (.imul, 1) := by decide +kernel
theorem dX12_isPlanned_47 : decode cX12_isPlanned 47 = .ok (.iload_n 2, 1) := by decide +kernel
theorem dX12_isPlanned_48 : decode cX12_isPlanned 48 = .ok (.iadd, 1) := by decide +kernel
theorem dX12_isPlanned_49 : decode cX12_isPlanned 49 = .ok (.iaload, 1) := by decide +kernel
theorem dX12_isPlanned_50 : decode cX12_isPlanned 50 = .ok (.iaload, 1) := by decide +kernel
theorem dX12_isPlanned_51 : decode cX12_isPlanned 51 = .ok (.sipush 1000, 3) := by decide +kernel
theorem dX12_isPlanned_54 : decode cX12_isPlanned 54 = .ok (.aload_n 0, 1) := by decide +kernel
theorem dX12_isPlanned_55 : decode cX12_isPlanned 55 = .ok (.getfield 7, 3) := by decide +kernel
theorem dX12_isPlanned_58 : decode cX12_isPlanned 58 = .ok (.bipush 72, 2) := by decide +kernel
theorem dX12_isPlanned_60 : decode cX12_isPlanned 60 = .ok (.iload_n 2, 1) := by decide +kernel
theorem dX12_isPlanned_61 : decode cX12_isPlanned 61 = .ok (.iadd, 1) := by decide +kernel
theorem dX12_isPlanned_62 : decode cX12_isPlanned 62 = .ok (.iaload, 1) := by decide +kernel
theorem dX12_isPlanned_63 : decode cX12_isPlanned 63 = .ok (.imul, 1) := by decide +kernel
theorem dX12_isPlanned_64 : decode cX12_isPlanned 64 = .ok (.iadd, 1) := by decide +kernel
theorem dX12_isPlanned_65 : decode cX12_isPlanned 65 = .ok (.iconst 1, 1) := by decide +kernel
theorem dX12_isPlanned_66 : decode cX12_isPlanned 66 = .ok (.iadd, 1) := by decide +kernel
theorem dX12_isPlanned_67 : decode cX12_isPlanned 67 = .ok (.aload_n 0, 1) := by decide +kernel
theorem dX12_isPlanned_68 : decode cX12_isPlanned 68 = .ok (.getfield 51, 3) := by decide +kernel
theorem dX12_isPlanned_71 : decode cX12_isPlanned 71 = .ok (.iload_n 1, 1) := by decide +kernel
theorem dX12_isPlanned_72 : decode cX12_isPlanned 72 = .ok (.iaload, 1) := by decide +kernel
theorem dX12_isPlanned_73 : decode cX12_isPlanned 73 = .ok (.if_icmp .eq 9, 3) := by decide +kernel
theorem dX12_isPlanned_76 : decode cX12_isPlanned 76 = .ok (.iinc 2 1, 3) := by decide +kernel
theorem dX12_isPlanned_79 : decode cX12_isPlanned 79 = .ok (.goto (-44), 3) := by decide +kernel
theorem dX12_isPlanned_82 : decode cX12_isPlanned 82 = .ok (.aload_n 0, 1) := by decide +kernel
theorem dX12_isPlanned_83 : decode cX12_isPlanned 83 = .ok (.getfield 57, 3) := by decide +kernel
theorem dX12_isPlanned_86 : decode cX12_isPlanned 86 = .ok (.aload_n 0, 1) := by decide +kernel
theorem dX12_isPlanned_87 : decode cX12_isPlanned 87 = .ok (.getfield 241, 3) := by decide +kernel
theorem dX12_isPlanned_90 : decode cX12_isPlanned 90 = .ok (.iload_n 2, 1) := by decide +kernel
theorem dX12_isPlanned_91 : decode cX12_isPlanned 91 = .ok (.iastore, 1) := by decide +kernel
theorem dX12_isPlanned_92 : decode cX12_isPlanned 92 = .ok (.aload_n 0, 1) := by decide +kernel
theorem dX12_isPlanned_93 : decode cX12_isPlanned 93 = .ok (.dup, 1) := by decide +kernel
theorem dX12_isPlanned_94 : decode cX12_isPlanned 94 = .ok (.getfield 241, 3) := by decide +kernel
theorem dX12_isPlanned_97 : decode cX12_isPlanned 97 = .ok (.iconst 1, 1) := by decide +kernel
theorem dX12_isPlanned_98 : decode cX12_isPlanned 98 = .ok (.iadd, 1) := by decide +kernel
theorem dX12_isPlanned_99 : decode cX12_isPlanned 99 = .ok (.putfield 241, 3) := by decide +kernel
theorem dX12_isPlanned_102 : decode cX12_isPlanned 102 = .ok (.aload_n 0, 1) := by decide +kernel
theorem dX12_isPlanned_103 : decode cX12_isPlanned 103 = .ok (.getfield 54, 3) := by decide +kernel
theorem dX12_isPlanned_106 : decode cX12_isPlanned 106 = .ok (.bipush 24, 2) := by decide +kernel
theorem dX12_isPlanned_108 : decode cX12_isPlanned 108 = .ok (.iload_n 1, 1) := by decide +kernel
theorem dX12_isPlanned_109 : decode cX12_isPlanned 109 = .ok (.imul, 1) := by decide +kernel
theorem dX12_isPlanned_110 : decode cX12_isPlanned 110 = .ok (.iload_n 2, 1) := by decide +kernel
theorem dX12_isPlanned_111 : decode cX12_isPlanned 111 = .ok (.iadd, 1) := by decide +kernel
theorem dX12_isPlanned_112 : decode cX12_isPlanned 112 = .ok (.iaload, 1) := by decide +kernel
theorem dX12_isPlanned_113 : decode cX12_isPlanned 113 = .ok (.istore_n 1, 1) := by decide +kernel
theorem dX12_isPlanned_114 : decode cX12_isPlanned 114 = .ok (.goto (-90), 3) := by decide +kernel
theorem dX12_isPlanned_117 : decode cX12_isPlanned 117 = .ok (.iconst 1, 1) := by decide +kernel
theorem dX12_isPlanned_118 : decode cX12_isPlanned 118 = .ok (.ireturn, 1) := by decide +kernel
theorem dX12_best_0 : decode cX12_best 0 = .ok (.iload_n 1, 1) := by decide +kernel
theorem dX12_best_1 : decode cX12_best 1 = .ok (.iconst 0, 1) := by decide +kernel
theorem dX12_best_2 : decode cX12_best 2 = .ok (.iconst 1, 1) := by decide +kernel
theorem dX12_best_3 : decode cX12_best 3 = .ok (.invokestatic 67, 3) := by decide +kernel
theorem dX12_best_6 : decode cX12_best 6 = .ok (.ifCond .eq 10, 3) := by decide +kernel
theorem dX12_best_9 : decode cX12_best 9 = .ok (.aload_n 0, 1) := by decide +kernel
theorem dX12_best_10 : decode cX12_best 10 = .ok (.invokevirtual 232, 3) := by decide +kernel
theorem dX12_best_13 : decode cX12_best 13 = .ok (.ifCond .ne 10, 3) := by decide +kernel
theorem dX12_best_16 : decode cX12_best 16 = .ok (.aload_n 0, 1) := by decide +kernel
theorem dX12_best_17 : decode cX12_best 17 = .ok (.bipush (-5), 2) := by decide +kernel
theorem dX12_best_19 : decode cX12_best 19 = .ok (.invokevirtual 177, 3) := by decide +kernel
theorem dX12_best_22 : decode cX12_best 22 = .ok (.ireturn, 1) := by decide +kernel
theorem dX12_best_23 : decode cX12_best 23 = .ok (.aload_n 0, 1) := by decide +kernel
theorem dX12_best_24 : decode cX12_best 24 = .ok (.invokevirtual 244, 3) := by decide +kernel
theorem dX12_best_27 : decode cX12_best 27 = .ok (.ifCond .ne 5, 3) := by decide +kernel
theorem dX12_best_30 : decode cX12_best 30 = .ok (.iconst (-1), 1) := by decide +kernel
theorem dX12_best_31 : decode cX12_best 31 = .ok (.ireturn, 1) := by decide +kernel
theorem dX12_best_32 : decode cX12_best 32 = .ok (.iload_n 1, 1) := by decide +kernel
theorem dX12_best_33 : decode cX12_best 33 = .ok (.ifCond .ne 16, 3) := by decide +kernel
theorem dX12_best_36 : decode cX12_best 36 = .ok (.aload_n 0, 1) := by decide +kernel
theorem dX12_best_37 : decode cX12_best 37 = .ok (.getfield 51, 3) := by decide +kernel
theorem dX12_best_40 : decode cX12_best 40 = .ok (.iconst 0, 1) := by decide +kernel
theorem dX12_best_41 : decode cX12_best 41 = .ok (.iaload, 1) := by decide +kernel
theorem dX12_best_42 : decode cX12_best 42 = .ok (.sipush 1000, 3) := by decide +kernel
theorem dX12_best_45 : decode cX12_best 45 = .ok (.idiv, 1) := by decide +kernel
theorem dX12_best_46 : decode cX12_best 46 = .ok (.goto 7, 3) := by decide +kernel
theorem dX12_best_49 : decode cX12_best 49 = .ok (.aload_n 0, 1) := by decide +kernel
theorem dX12_best_50 : decode cX12_best 50 = .ok (.getfield 241, 3) := by decide +kernel
theorem dX12_best_53 : decode cX12_best 53 = .ok (.ireturn, 1) := by decide +kernel
theorem dX12_bestAt_0 : decode cX12_bestAt 0 = .ok (.aload_n 0, 1) := by decide +kernel
theorem dX12_bestAt_1 : decode cX12_bestAt 1 = .ok (.invokevirtual 232, 3) := by decide +kernel
theorem dX12_bestAt_4 : decode cX12_bestAt 4 = .ok (.ifCond .ne 10, 3) := by decide +kernel
theorem dX12_bestAt_7 : decode cX12_bestAt 7 = .ok (.aload_n 0, 1) := by decide +kernel
theorem dX12_bestAt_8 : decode cX12_bestAt 8 = .ok (.bipush (-5), 2) := by decide +kernel
theorem dX12_bestAt_10 : decode cX12_bestAt 10 = .ok (.invokevirtual 177, 3) := by decide +kernel
theorem dX12_bestAt_13 : decode cX12_bestAt 13 = .ok (.ireturn, 1) := by decide +kernel
theorem dX12_bestAt_14 : decode cX12_bestAt 14 = .ok (.aload_n 0, 1) := by decide +kernel
theorem dX12_bestAt_15 : decode cX12_bestAt 15 = .ok (.invokevirtual 244, 3) := by decide +kernel
theorem dX12_bestAt_18 : decode cX12_bestAt 18 = .ok (.ifCond .eq 26, 3) := by decide +kernel
theorem dX12_bestAt_21 : decode cX12_bestAt 21 = .ok (.iload_n 1, 1) := by decide +kernel
theorem dX12_bestAt_22 : decode cX12_bestAt 22 = .ok (.iconst 0, 1) := by decide +kernel
theorem dX12_bestAt_23 : decode cX12_bestAt 23 = .ok (.aload_n 0, 1) := by decide +kernel
theorem dX12_bestAt_24 : decode cX12_bestAt 24 = .ok (.getfield 241, 3) := by decide +kernel
theorem dX12_bestAt_27 : decode cX12_bestAt 27 = .ok (.iconst 1, 1) := by decide +kernel
theorem dX12_bestAt_28 : decode cX12_bestAt 28 = .ok (.isub, 1) := by decide +kernel
theorem dX12_bestAt_29 : decode cX12_bestAt 29 = .ok (.invokestatic 67, 3) := by decide +kernel
theorem dX12_bestAt_32 : decode cX12_bestAt 32 = .ok (.ifCond .eq 12, 3) := by decide +kernel
theorem dX12_bestAt_35 : decode cX12_bestAt 35 = .ok (.aload_n 0, 1) := by decide +kernel
theorem dX12_bestAt_36 : decode cX12_bestAt 36 = .ok (.getfield 57, 3) := by decide +kernel
theorem dX12_bestAt_39 : decode cX12_bestAt 39 = .ok (.iload_n 1, 1) := by decide +kernel
theorem dX12_bestAt_40 : decode cX12_bestAt 40 = .ok (.iaload, 1) := by decide +kernel
theorem dX12_bestAt_41 : decode cX12_bestAt 41 = .ok (.goto 4, 3) := by decide +kernel
theorem dX12_bestAt_44 : decode cX12_bestAt 44 = .ok (.iconst (-1), 1) := by decide +kernel
theorem dX12_bestAt_45 : decode cX12_bestAt 45 = .ok (.ireturn, 1) := by decide +kernel
theorem dX12_spell_0 : decode cX12_spell 0 = .ok (.aload_n 0, 1) := by decide +kernel
theorem dX12_spell_1 : decode cX12_spell 1 = .ok (.iload_n 1, 1) := by decide +kernel
theorem dX12_spell_2 : decode cX12_spell 2 = .ok (.invokevirtual 79, 3) := by decide +kernel
theorem dX12_spell_5 : decode cX12_spell 5 = .ok (.istore_n 2, 1) := by decide +kernel
theorem dX12_spell_6 : decode cX12_spell 6 = .ok (.iload_n 2, 1) := by decide +kernel
theorem dX12_spell_7 : decode cX12_spell 7 = .ok (.ifCond .eq 9, 3) := by decide +kernel
theorem dX12_spell_10 : decode cX12_spell 10 = .ok (.aload_n 0, 1) := by decide +kernel
theorem dX12_spell_11 : decode cX12_spell 11 = .ok (.iload_n 2, 1) := by decide +kernel
theorem dX12_spell_12 : decode cX12_spell 12 = .ok (.invokevirtual 75, 3) := by decide +kernel
theorem dX12_spell_15 : decode cX12_spell 15 = .ok (.ireturn, 1) := by decide +kernel
theorem dX12_spell_16 : decode cX12_spell 16 = .ok (.aload_n 0, 1) := by decide +kernel
theorem dX12_spell_17 : decode cX12_spell 17 = .ok (.invokevirtual 232, 3) := by decide +kernel
theorem dX12_spell_20 : decode cX12_spell 20 = .ok (.ifCond .eq 10, 3) := by decide +kernel
theorem dX12_spell_23 : decode cX12_spell 23 = .ok (.aload_n 0, 1) := by decide +kernel
theorem dX12_spell_24 : decode cX12_spell 24 = .ok (.invokevirtual 244, 3) := by decide +kernel
theorem dX12_spell_27 : decode cX12_spell 27 = .ok (.ifCond .ne 10, 3) := by decide +kernel
theorem dX12_spell_30 : decode cX12_spell 30 = .ok (.aload_n 0, 1) := by decide +kernel
theorem dX12_spell_31 : decode cX12_spell 31 = .ok (.bipush (-5), 2) := by decide +kernel
theorem dX12_spell_33 : decode cX12_spell 33 = .ok (.invokevirtual 75, 3) := by decide +kernel
theorem dX12_spell_36 : decode cX12_spell 36 = .ok (.ireturn, 1) := by decide +kernel
theorem dX12_spell_37 : decode cX12_spell 37 = .ok (.aload_n 0, 1) := by decide +kernel
theorem dX12_spell_38 : decode cX12_spell 38 = .ok (.getfield 241, 3) := by decide +kernel
theorem dX12_spell_41 : decode cX12_spell 41 = .ok (.aload_n 0, 1) := by decide +kernel
theorem dX12_spell_42 : decode cX12_spell 42 = .ok (.getfield 22, 3) := by decide +kernel
theorem dX12_spell_45 : decode cX12_spell 45 = .ok (.iload_n 1, 1) := by decide +kernel
theorem dX12_spell_46 : decode cX12_spell 46 = .ok (.iaload, 1) := by decide +kernel
theorem dX12_spell_47 : decode cX12_spell 47 = .ok (.if_icmp .le 10, 3) := by decide +kernel
theorem dX12_spell_50 : decode cX12_spell 50 = .ok (.aload_n 0, 1) := by decide +kernel
theorem dX12_spell_51 : decode cX12_spell 51 = .ok (.bipush (-7), 2) := by decide +kernel
theorem dX12_spell_53 : decode cX12_spell 53 = .ok (.invokevirtual 75, 3) := by decide +kernel
theorem dX12_spell_56 : decode cX12_spell 56 = .ok (.ireturn, 1) := by decide +kernel
theorem dX12_spell_57 : decode cX12_spell 57 = .ok (.iconst 0, 1) := by decide +kernel
theorem dX12_spell_58 : decode cX12_spell 58 = .ok (.istore_n 3, 1) := by decide +kernel
theorem dX12_spell_59 : decode cX12_spell 59 = .ok (.iload_n 3, 1) := by decide +kernel
theorem dX12_spell_60 : decode cX12_spell 60 = .ok (.aload_n 0, 1) := by decide +kernel
theorem dX12_spell_61 : decode cX12_spell 61 = .ok (.getfield 241, 3) := by decide +kernel
theorem dX12_spell_64 : decode cX12_spell 64 = .ok (.if_icmp .ge 28, 3) := by decide +kernel
theorem dX12_spell_67 : decode cX12_spell 67 = .ok (.aload_n 0, 1) := by decide +kernel
theorem dX12_spell_68 : decode cX12_spell 68 = .ok (.getfield 25, 3) := by decide +kernel
theorem dX12_spell_71 : decode cX12_spell 71 = .ok (.sipush 160, 3) := by decide +kernel
theorem dX12_spell_74 : decode cX12_spell 74 = .ok (.iload_n 1, 1) := by decide +kernel
theorem dX12_spell_75 : decode cX12_spell 75 = .ok (.imul, 1) := by decide +kernel
theorem dX12_spell_76 : decode cX12_spell 76 = .ok (.iload_n 3, 1) := by decide +kernel
theorem dX12_spell_77 : decode cX12_spell 77 = .ok (.iadd, 1) := by decide +kernel
theorem dX12_spell_78 : decode cX12_spell 78 = .ok (.aload_n 0, 1) := by decide +kernel
theorem dX12_spell_79 : decode cX12_spell 79 = .ok (.getfield 57, 3) := by decide +kernel
theorem dX12_spell_82 : decode cX12_spell 82 = .ok (.iload_n 3, 1) := by decide +kernel
theorem dX12_spell_83 : decode cX12_spell 83 = .ok (.iaload, 1) := by decide +kernel
theorem dX12_spell_84 : decode cX12_spell 84 = .ok (.i2l, 1) := by decide +kernel
theorem dX12_spell_85 : decode cX12_spell 85 = .ok (.lastore, 1) := by decide +kernel
theorem dX12_spell_86 : decode cX12_spell 86 = .ok (.iinc 3 1, 3) := by decide +kernel
theorem dX12_spell_89 : decode cX12_spell 89 = .ok (.goto (-30), 3) := by decide +kernel
theorem dX12_spell_92 : decode cX12_spell 92 = .ok (.aload_n 0, 1) := by decide +kernel
theorem dX12_spell_93 : decode cX12_spell 93 = .ok (.getfield 241, 3) := by decide +kernel
theorem dX12_spell_96 : decode cX12_spell 96 = .ok (.ireturn, 1) := by decide +kernel
theorem dX12_told_0 : decode cX12_told 0 = .ok (.aload_n 0, 1) := by decide +kernel
theorem dX12_told_1 : decode cX12_told 1 = .ok (.getfield 25, 3) := by decide +kernel
theorem dX12_told_4 : decode cX12_told 4 = .ok (.sipush 160, 3) := by decide +kernel
theorem dX12_told_7 : decode cX12_told 7 = .ok (.iload_n 1, 1) := by decide +kernel
theorem dX12_told_8 : decode cX12_told 8 = .ok (.imul, 1) := by decide +kernel
theorem dX12_told_9 : decode cX12_told 9 = .ok (.iload_n 2, 1) := by decide +kernel
theorem dX12_told_10 : decode cX12_told 10 = .ok (.iadd, 1) := by decide +kernel
theorem dX12_told_11 : decode cX12_told 11 = .ok (.laload, 1) := by decide +kernel
theorem dX12_told_12 : decode cX12_told 12 = .ok (.l2i, 1) := by decide +kernel
theorem dX12_told_13 : decode cX12_told 13 = .ok (.ireturn, 1) := by decide +kernel
theorem dX12_wantedPlan_0 : decode cX12_wantedPlan 0 = .ok (.aload_n 0, 1) := by decide +kernel
theorem dX12_wantedPlan_1 : decode cX12_wantedPlan 1 = .ok (.iload_n 1, 1) := by decide +kernel
theorem dX12_wantedPlan_2 : decode cX12_wantedPlan 2 = .ok (.invokevirtual 79, 3) := by decide +kernel
theorem dX12_wantedPlan_5 : decode cX12_wantedPlan 5 = .ok (.istore_n 3, 1) := by decide +kernel
theorem dX12_wantedPlan_6 : decode cX12_wantedPlan 6 = .ok (.iload_n 3, 1) := by decide +kernel
theorem dX12_wantedPlan_7 : decode cX12_wantedPlan 7 = .ok (.ifCond .eq 7, 3) := by decide +kernel
theorem dX12_wantedPlan_10 : decode cX12_wantedPlan 10 = .ok (.iload_n 3, 1) := by decide +kernel
theorem dX12_wantedPlan_11 : decode cX12_wantedPlan 11 = .ok (.goto 39, 3) := by decide +kernel
theorem dX12_wantedPlan_14 : decode cX12_wantedPlan 14 = .ok (.iload_n 2, 1) := by decide +kernel
theorem dX12_wantedPlan_15 : decode cX12_wantedPlan 15 = .ok (.ifCond .ge 8, 3) := by decide +kernel
theorem dX12_wantedPlan_18 : decode cX12_wantedPlan 18 = .ok (.bipush (-4), 2) := by decide +kernel
theorem dX12_wantedPlan_20 : decode cX12_wantedPlan 20 = .ok (.goto 30, 3) := by decide +kernel
theorem dX12_wantedPlan_23 : decode cX12_wantedPlan 23 = .ok (.iload_n 2, 1) := by decide +kernel
theorem dX12_wantedPlan_24 : decode cX12_wantedPlan 24 = .ok (.aload_n 0, 1) := by decide +kernel
theorem dX12_wantedPlan_25 : decode cX12_wantedPlan 25 = .ok (.getfield 22, 3) := by decide +kernel
theorem dX12_wantedPlan_28 : decode cX12_wantedPlan 28 = .ok (.iload_n 1, 1) := by decide +kernel
theorem dX12_wantedPlan_29 : decode cX12_wantedPlan 29 = .ok (.iaload, 1) := by decide +kernel
theorem dX12_wantedPlan_30 : decode cX12_wantedPlan 30 = .ok (.if_icmp .le 8, 3) := by decide +kernel
theorem dX12_wantedPlan_33 : decode cX12_wantedPlan 33 = .ok (.bipush (-5), 2) := by decide +kernel
theorem dX12_wantedPlan_35 : decode cX12_wantedPlan 35 = .ok (.goto 15, 3) := by decide +kernel
theorem dX12_wantedPlan_38 : decode cX12_wantedPlan 38 = .ok (.iload_n 2, 1) := by decide +kernel
theorem dX12_wantedPlan_39 : decode cX12_wantedPlan 39 = .ok (.bipush 100, 2) := by decide +kernel
theorem dX12_wantedPlan_41 : decode cX12_wantedPlan 41 = .ok (.if_icmp .le 8, 3) := by decide +kernel
theorem dX12_wantedPlan_44 : decode cX12_wantedPlan 44 = .ok (.bipush (-6), 2) := by decide +kernel
theorem dX12_wantedPlan_46 : decode cX12_wantedPlan 46 = .ok (.goto 4, 3) := by decide +kernel
theorem dX12_wantedPlan_49 : decode cX12_wantedPlan 49 = .ok (.iconst 0, 1) := by decide +kernel
theorem dX12_wantedPlan_50 : decode cX12_wantedPlan 50 = .ok (.ireturn, 1) := by decide +kernel
theorem dX12_wrongOf_0 : decode cX12_wrongOf 0 = .ok (.aload_n 0, 1) := by decide +kernel
theorem dX12_wrongOf_1 : decode cX12_wrongOf 1 = .ok (.aload_n 0, 1) := by decide +kernel
theorem dX12_wrongOf_2 : decode cX12_wrongOf 2 = .ok (.getfield 7, 3) := by decide +kernel
theorem dX12_wrongOf_5 : decode cX12_wrongOf 5 = .ok (.sipush 168, 3) := by decide +kernel
theorem dX12_wrongOf_8 : decode cX12_wrongOf 8 = .ok (.iaload, 1) := by decide +kernel
theorem dX12_wrongOf_9 : decode cX12_wrongOf 9 = .ok (.putfield 247, 3) := by decide +kernel
theorem dX12_wrongOf_12 : decode cX12_wrongOf 12 = .ok (.aload_n 0, 1) := by decide +kernel
theorem dX12_wrongOf_13 : decode cX12_wrongOf 13 = .ok (.iconst 0, 1) := by decide +kernel
theorem dX12_wrongOf_14 : decode cX12_wrongOf 14 = .ok (.putfield 250, 3) := by decide +kernel
theorem dX12_wrongOf_17 : decode cX12_wrongOf 17 = .ok (.iconst 0, 1) := by decide +kernel
theorem dX12_wrongOf_18 : decode cX12_wrongOf 18 = .ok (.istore_n 3, 1) := by decide +kernel
theorem dX12_wrongOf_19 : decode cX12_wrongOf 19 = .ok (.iload_n 3, 1) := by decide +kernel
theorem dX12_wrongOf_20 : decode cX12_wrongOf 20 = .ok (.iload_n 2, 1) := by decide +kernel
theorem dX12_wrongOf_21 : decode cX12_wrongOf 21 = .ok (.if_icmp .ge 74, 3) := by decide +kernel
theorem dX12_wrongOf_24 : decode cX12_wrongOf 24 = .ok (.aload_n 0, 1) := by decide +kernel
theorem dX12_wrongOf_25 : decode cX12_wrongOf 25 = .ok (.iload_n 1, 1) := by decide +kernel
theorem dX12_wrongOf_26 : decode cX12_wrongOf 26 = .ok (.iload_n 3, 1) := by decide +kernel
theorem dX12_wrongOf_27 : decode cX12_wrongOf 27 = .ok (.invokevirtual 253, 3) := by decide +kernel
theorem dX12_wrongOf_30 : decode cX12_wrongOf 30 = .ok (.istore 4, 2) := by decide +kernel
theorem dX12_wrongOf_32 : decode cX12_wrongOf 32 = .ok (.aload_n 0, 1) := by decide +kernel
theorem dX12_wrongOf_33 : decode cX12_wrongOf 33 = .ok (.iload 4, 2) := by decide +kernel
theorem dX12_wrongOf_35 : decode cX12_wrongOf 35 = .ok (.invokevirtual 85, 3) := by decide +kernel
theorem dX12_wrongOf_38 : decode cX12_wrongOf 38 = .ok (.ifCond .eq 16, 3) := by decide +kernel
theorem dX12_wrongOf_41 : decode cX12_wrongOf 41 = .ok (.aload_n 0, 1) := by decide +kernel
theorem dX12_wrongOf_42 : decode cX12_wrongOf 42 = .ok (.aload_n 0, 1) := by decide +kernel
theorem dX12_wrongOf_43 : decode cX12_wrongOf 43 = .ok (.getfield 247, 3) := by decide +kernel
theorem dX12_wrongOf_46 : decode cX12_wrongOf 46 = .ok (.iload 4, 2) := by decide +kernel
theorem dX12_wrongOf_48 : decode cX12_wrongOf 48 = .ok (.invokevirtual 165, 3) := by decide +kernel
theorem dX12_wrongOf_51 : decode cX12_wrongOf 51 = .ok (.ifCond .ne 5, 3) := by decide +kernel
theorem dX12_wrongOf_54 : decode cX12_wrongOf 54 = .ok (.iload_n 3, 1) := by decide +kernel
theorem dX12_wrongOf_55 : decode cX12_wrongOf 55 = .ok (.ireturn, 1) := by decide +kernel
theorem dX12_wrongOf_56 : decode cX12_wrongOf 56 = .ok (.aload_n 0, 1) := by decide +kernel
theorem dX12_wrongOf_57 : decode cX12_wrongOf 57 = .ok (.aload_n 0, 1) := by decide +kernel
theorem dX12_wrongOf_58 : decode cX12_wrongOf 58 = .ok (.aload_n 0, 1) := by decide +kernel
theorem dX12_wrongOf_59 : decode cX12_wrongOf 59 = .ok (.getfield 247, 3) := by decide +kernel
theorem dX12_wrongOf_62 : decode cX12_wrongOf 62 = .ok (.iload 4, 2) := by decide +kernel
theorem dX12_wrongOf_64 : decode cX12_wrongOf 64 = .ok (.invokevirtual 168, 3) := by decide +kernel
theorem dX12_wrongOf_67 : decode cX12_wrongOf 67 = .ok (.putfield 247, 3) := by decide +kernel
theorem dX12_wrongOf_70 : decode cX12_wrongOf 70 = .ok (.aload_n 0, 1) := by decide +kernel
theorem dX12_wrongOf_71 : decode cX12_wrongOf 71 = .ok (.dup, 1) := by decide +kernel
theorem dX12_wrongOf_72 : decode cX12_wrongOf 72 = .ok (.getfield 250, 3) := by decide +kernel
theorem dX12_wrongOf_75 : decode cX12_wrongOf 75 = .ok (.aload_n 0, 1) := by decide +kernel
theorem dX12_wrongOf_76 : decode cX12_wrongOf 76 = .ok (.getfield 7, 3) := by decide +kernel
theorem dX12_wrongOf_79 : decode cX12_wrongOf 79 = .ok (.bipush 72, 2) := by decide +kernel
theorem dX12_wrongOf_81 : decode cX12_wrongOf 81 = .ok (.iload 4, 2) := by decide +kernel
theorem dX12_wrongOf_83 : decode cX12_wrongOf 83 = .ok (.iadd, 1) := by decide +kernel
theorem dX12_wrongOf_84 : decode cX12_wrongOf 84 = .ok (.iaload, 1) := by decide +kernel
theorem dX12_wrongOf_85 : decode cX12_wrongOf 85 = .ok (.iadd, 1) := by decide +kernel
theorem dX12_wrongOf_86 : decode cX12_wrongOf 86 = .ok (.putfield 250, 3) := by decide +kernel
theorem dX12_wrongOf_89 : decode cX12_wrongOf 89 = .ok (.iinc 3 1, 3) := by decide +kernel
theorem dX12_wrongOf_92 : decode cX12_wrongOf 92 = .ok (.goto (-73), 3) := by decide +kernel
theorem dX12_wrongOf_95 : decode cX12_wrongOf 95 = .ok (.iconst (-1), 1) := by decide +kernel
theorem dX12_wrongOf_96 : decode cX12_wrongOf 96 = .ok (.ireturn, 1) := by decide +kernel
theorem dX12_judge_0 : decode cX12_judge 0 = .ok (.aload_n 0, 1) := by decide +kernel
theorem dX12_judge_1 : decode cX12_judge 1 = .ok (.iload_n 1, 1) := by decide +kernel
theorem dX12_judge_2 : decode cX12_judge 2 = .ok (.iload_n 2, 1) := by decide +kernel
theorem dX12_judge_3 : decode cX12_judge 3 = .ok (.invokevirtual 256, 3) := by decide +kernel
theorem dX12_judge_6 : decode cX12_judge 6 = .ok (.istore_n 3, 1) := by decide +kernel
theorem dX12_judge_7 : decode cX12_judge 7 = .ok (.iload_n 3, 1) := by decide +kernel
theorem dX12_judge_8 : decode cX12_judge 8 = .ok (.ifCond .eq 11, 3) := by decide +kernel
theorem dX12_judge_11 : decode cX12_judge 11 = .ok (.aload_n 0, 1) := by decide +kernel
theorem dX12_judge_12 : decode cX12_judge 12 = .ok (.iload_n 3, 1) := by decide +kernel
theorem dX12_judge_13 : decode cX12_judge 13 = .ok (.invokevirtual 177, 3) := by decide +kernel
theorem dX12_judge_16 : decode cX12_judge 16 = .ok (.goto 9, 3) := by decide +kernel
theorem dX12_judge_19 : decode cX12_judge 19 = .ok (.aload_n 0, 1) := by decide +kernel
theorem dX12_judge_20 : decode cX12_judge 20 = .ok (.iload_n 1, 1) := by decide +kernel
theorem dX12_judge_21 : decode cX12_judge 21 = .ok (.iload_n 2, 1) := by decide +kernel
theorem dX12_judge_22 : decode cX12_judge 22 = .ok (.invokevirtual 259, 3) := by decide +kernel
theorem dX12_judge_25 : decode cX12_judge 25 = .ok (.ireturn, 1) := by decide +kernel
theorem dX12_behind_0 : decode cX12_behind 0 = .ok (.aload_n 0, 1) := by decide +kernel
theorem dX12_behind_1 : decode cX12_behind 1 = .ok (.iload_n 1, 1) := by decide +kernel
theorem dX12_behind_2 : decode cX12_behind 2 = .ok (.iload_n 2, 1) := by decide +kernel
theorem dX12_behind_3 : decode cX12_behind 3 = .ok (.invokevirtual 256, 3) := by decide +kernel
theorem dX12_behind_6 : decode cX12_behind 6 = .ok (.istore 4, 2) := by decide +kernel
theorem dX12_behind_8 : decode cX12_behind 8 = .ok (.iload 4, 2) := by decide +kernel
theorem dX12_behind_10 : decode cX12_behind 10 = .ok (.ifCond .eq 17, 3) := by decide +kernel
theorem dX12_behind_13 : decode cX12_behind 13 = .ok (.iload 4, 2) := by decide +kernel
theorem dX12_behind_15 : decode cX12_behind 15 = .ok (.bipush (-6), 2) := by decide +kernel
theorem dX12_behind_17 : decode cX12_behind 17 = .ok (.if_icmp .eq 10, 3) := by decide +kernel
theorem dX12_behind_20 : decode cX12_behind 20 = .ok (.aload_n 0, 1) := by decide +kernel
theorem dX12_behind_21 : decode cX12_behind 21 = .ok (.iload 4, 2) := by decide +kernel
theorem dX12_behind_23 : decode cX12_behind 23 = .ok (.invokevirtual 75, 3) := by decide +kernel
theorem dX12_behind_26 : decode cX12_behind 26 = .ok (.ireturn, 1) := by decide +kernel
theorem dX12_behind_27 : decode cX12_behind 27 = .ok (.iload_n 3, 1) := by decide +kernel
theorem dX12_behind_28 : decode cX12_behind 28 = .ok (.iconst 0, 1) := by decide +kernel
theorem dX12_behind_29 : decode cX12_behind 29 = .ok (.iconst 3, 1) := by decide +kernel
theorem dX12_behind_30 : decode cX12_behind 30 = .ok (.invokestatic 67, 3) := by decide +kernel
theorem dX12_behind_33 : decode cX12_behind 33 = .ok (.ifCond .ne 10, 3) := by decide +kernel
theorem dX12_behind_36 : decode cX12_behind 36 = .ok (.aload_n 0, 1) := by decide +kernel
theorem dX12_behind_37 : decode cX12_behind 37 = .ok (.bipush (-5), 2) := by decide +kernel
theorem dX12_behind_39 : decode cX12_behind 39 = .ok (.invokevirtual 75, 3) := by decide +kernel
theorem dX12_behind_42 : decode cX12_behind 42 = .ok (.ireturn, 1) := by decide +kernel
theorem dX12_behind_43 : decode cX12_behind 43 = .ok (.iload 4, 2) := by decide +kernel
theorem dX12_behind_45 : decode cX12_behind 45 = .ok (.ifCond .ne 13, 3) := by decide +kernel
theorem dX12_behind_48 : decode cX12_behind 48 = .ok (.aload_n 0, 1) := by decide +kernel
theorem dX12_behind_49 : decode cX12_behind 49 = .ok (.iload_n 1, 1) := by decide +kernel
theorem dX12_behind_50 : decode cX12_behind 50 = .ok (.iload_n 2, 1) := by decide +kernel
theorem dX12_behind_51 : decode cX12_behind 51 = .ok (.invokevirtual 259, 3) := by decide +kernel
theorem dX12_behind_54 : decode cX12_behind 54 = .ok (.iconst (-1), 1) := by decide +kernel
theorem dX12_behind_55 : decode cX12_behind 55 = .ok (.if_icmp .eq 10, 3) := by decide +kernel
theorem dX12_behind_58 : decode cX12_behind 58 = .ok (.aload_n 0, 1) := by decide +kernel
theorem dX12_behind_59 : decode cX12_behind 59 = .ok (.bipush (-6), 2) := by decide +kernel
theorem dX12_behind_61 : decode cX12_behind 61 = .ok (.invokevirtual 75, 3) := by decide +kernel
theorem dX12_behind_64 : decode cX12_behind 64 = .ok (.ireturn, 1) := by decide +kernel
theorem dX12_behind_65 : decode cX12_behind 65 = .ok (.aload_n 0, 1) := by decide +kernel
theorem dX12_behind_66 : decode cX12_behind 66 = .ok (.getfield 7, 3) := by decide +kernel
theorem dX12_behind_69 : decode cX12_behind 69 = .ok (.sipush 169, 3) := by decide +kernel
theorem dX12_behind_72 : decode cX12_behind 72 = .ok (.iaload, 1) := by decide +kernel
theorem dX12_behind_73 : decode cX12_behind 73 = .ok (.aload_n 0, 1) := by decide +kernel
theorem dX12_behind_74 : decode cX12_behind 74 = .ok (.getfield 247, 3) := by decide +kernel
theorem dX12_behind_77 : decode cX12_behind 77 = .ok (.iconst (-1), 1) := by decide +kernel
theorem dX12_behind_78 : decode cX12_behind 78 = .ok (.ixor, 1) := by decide +kernel
theorem dX12_behind_79 : decode cX12_behind 79 = .ok (.iand, 1) := by decide +kernel
theorem dX12_behind_80 : decode cX12_behind 80 = .ok (.istore 5, 2) := by decide +kernel
theorem dX12_behind_82 : decode cX12_behind 82 = .ok (.iload_n 3, 1) := by decide +kernel
theorem dX12_behind_83 : decode cX12_behind 83 = .ok (.ifCond .ne 10, 3) := by decide +kernel
theorem dX12_behind_86 : decode cX12_behind 86 = .ok (.aload_n 0, 1) := by decide +kernel
theorem dX12_behind_87 : decode cX12_behind 87 = .ok (.getfield 247, 3) := by decide +kernel
theorem dX12_behind_90 : decode cX12_behind 90 = .ok (.goto 35, 3) := by decide +kernel
theorem dX12_behind_93 : decode cX12_behind 93 = .ok (.iload_n 3, 1) := by decide +kernel
theorem dX12_behind_94 : decode cX12_behind 94 = .ok (.iconst 1, 1) := by decide +kernel
theorem dX12_behind_95 : decode cX12_behind 95 = .ok (.if_icmp .ne 10, 3) := by decide +kernel
theorem dX12_behind_98 : decode cX12_behind 98 = .ok (.aload_n 0, 1) := by decide +kernel
theorem dX12_behind_99 : decode cX12_behind 99 = .ok (.getfield 250, 3) := by decide +kernel
theorem dX12_behind_102 : decode cX12_behind 102 = .ok (.goto 23, 3) := by decide +kernel
theorem dX12_behind_105 : decode cX12_behind 105 = .ok (.iload_n 3, 1) := by decide +kernel
theorem dX12_behind_106 : decode cX12_behind 106 = .ok (.iconst 2, 1) := by decide +kernel
theorem dX12_behind_107 : decode cX12_behind 107 = .ok (.if_icmp .ne 16, 3) := by decide +kernel
theorem dX12_behind_110 : decode cX12_behind 110 = .ok (.iload 5, 2) := by decide +kernel
theorem dX12_behind_112 : decode cX12_behind 112 = .ok (.ifCond .ne 7, 3) := by decide +kernel
theorem dX12_behind_115 : decode cX12_behind 115 = .ok (.iconst 1, 1) := by decide +kernel
theorem dX12_behind_116 : decode cX12_behind 116 = .ok (.goto 9, 3) := by decide +kernel
theorem dX12_behind_119 : decode cX12_behind 119 = .ok (.iconst 0, 1) := by decide +kernel
theorem dX12_behind_120 : decode cX12_behind 120 = .ok (.goto 5, 3) := by decide +kernel
theorem dX12_behind_123 : decode cX12_behind 123 = .ok (.iload 5, 2) := by decide +kernel
theorem dX12_behind_125 : decode cX12_behind 125 = .ok (.ireturn, 1) := by decide +kernel
theorem dX12_pairs_0 : decode cX12_pairs 0 = .ok (.iconst 0, 1) := by decide +kernel
theorem dX12_pairs_1 : decode cX12_pairs 1 = .ok (.istore 4, 2) := by decide +kernel
theorem dX12_pairs_3 : decode cX12_pairs 3 = .ok (.iconst 0, 1) := by decide +kernel
theorem dX12_pairs_4 : decode cX12_pairs 4 = .ok (.istore 5, 2) := by decide +kernel
theorem dX12_pairs_6 : decode cX12_pairs 6 = .ok (.iload 5, 2) := by decide +kernel
theorem dX12_pairs_8 : decode cX12_pairs 8 = .ok (.iconst 1, 1) := by decide +kernel
theorem dX12_pairs_9 : decode cX12_pairs 9 = .ok (.iadd, 1) := by decide +kernel
theorem dX12_pairs_10 : decode cX12_pairs 10 = .ok (.iload_n 2, 1) := by decide +kernel
theorem dX12_pairs_11 : decode cX12_pairs 11 = .ok (.if_icmp .ge 43, 3) := by decide +kernel
theorem dX12_pairs_14 : decode cX12_pairs 14 = .ok (.iload 4, 2) := by decide +kernel
theorem dX12_pairs_16 : decode cX12_pairs 16 = .ok (.bipush 100, 2) := by decide +kernel
theorem dX12_pairs_18 : decode cX12_pairs 18 = .ok (.aload_n 0, 1) := by decide +kernel
theorem dX12_pairs_19 : decode cX12_pairs 19 = .ok (.iload_n 1, 1) := by decide +kernel
theorem dX12_pairs_20 : decode cX12_pairs 20 = .ok (.iload 5, 2) := by decide +kernel
theorem dX12_pairs_22 : decode cX12_pairs 22 = .ok (.invokevirtual 253, 3) := by decide +kernel
theorem dX12_pairs_25 : decode cX12_pairs 25 = .ok (.imul, 1) := by decide +kernel
theorem dX12_pairs_26 : decode cX12_pairs 26 = .ok (.aload_n 0, 1) := by decide +kernel
theorem dX12_pairs_27 : decode cX12_pairs 27 = .ok (.iload_n 1, 1) := by decide +kernel
theorem dX12_pairs_28 : decode cX12_pairs 28 = .ok (.iload 5, 2) := by decide +kernel
theorem dX12_pairs_30 : decode cX12_pairs 30 = .ok (.iconst 1, 1) := by decide +kernel
theorem dX12_pairs_31 : decode cX12_pairs 31 = .ok (.iadd, 1) := by decide +kernel
theorem dX12_pairs_32 : decode cX12_pairs 32 = .ok (.invokevirtual 253, 3) := by decide +kernel
theorem dX12_pairs_35 : decode cX12_pairs 35 = .ok (.iadd, 1) := by decide +kernel
theorem dX12_pairs_36 : decode cX12_pairs 36 = .ok (.iload_n 3, 1) := by decide +kernel
theorem dX12_pairs_37 : decode cX12_pairs 37 = .ok (.if_icmp .ne 7, 3) := by decide +kernel
theorem dX12_pairs_40 : decode cX12_pairs 40 = .ok (.iconst 1, 1) := by decide +kernel
theorem dX12_pairs_41 : decode cX12_pairs 41 = .ok (.goto 4, 3) := by decide +kernel
theorem dX12_pairs_44 : decode cX12_pairs 44 = .ok (.iconst 0, 1) := by decide +kernel
theorem dX12_pairs_45 : decode cX12_pairs 45 = .ok (.iadd, 1) := by decide +kernel
theorem dX12_pairs_46 : decode cX12_pairs 46 = .ok (.istore 4, 2) := by decide +kernel
theorem dX12_pairs_48 : decode cX12_pairs 48 = .ok (.iinc 5 1, 3) := by decide +kernel
theorem dX12_pairs_51 : decode cX12_pairs 51 = .ok (.goto (-45), 3) := by decide +kernel
theorem dX12_pairs_54 : decode cX12_pairs 54 = .ok (.iload 4, 2) := by decide +kernel
theorem dX12_pairs_56 : decode cX12_pairs 56 = .ok (.ireturn, 1) := by decide +kernel
theorem dX12_mostPair_0 : decode cX12_mostPair 0 = .ok (.aload_n 0, 1) := by decide +kernel
theorem dX12_mostPair_1 : decode cX12_mostPair 1 = .ok (.iload_n 1, 1) := by decide +kernel
theorem dX12_mostPair_2 : decode cX12_mostPair 2 = .ok (.iload_n 2, 1) := by decide +kernel
theorem dX12_mostPair_3 : decode cX12_mostPair 3 = .ok (.invokevirtual 256, 3) := by decide +kernel
theorem dX12_mostPair_6 : decode cX12_mostPair 6 = .ok (.istore_n 3, 1) := by decide +kernel
theorem dX12_mostPair_7 : decode cX12_mostPair 7 = .ok (.iload_n 3, 1) := by decide +kernel
theorem dX12_mostPair_8 : decode cX12_mostPair 8 = .ok (.ifCond .eq 15, 3) := by decide +kernel
theorem dX12_mostPair_11 : decode cX12_mostPair 11 = .ok (.iload_n 3, 1) := by decide +kernel
theorem dX12_mostPair_12 : decode cX12_mostPair 12 = .ok (.bipush (-6), 2) := by decide +kernel
theorem dX12_mostPair_14 : decode cX12_mostPair 14 = .ok (.if_icmp .eq 9, 3) := by decide +kernel
theorem dX12_mostPair_17 : decode cX12_mostPair 17 = .ok (.aload_n 0, 1) := by decide +kernel
theorem dX12_mostPair_18 : decode cX12_mostPair 18 = .ok (.iload_n 3, 1) := by decide +kernel
theorem dX12_mostPair_19 : decode cX12_mostPair 19 = .ok (.invokevirtual 75, 3) := by decide +kernel
theorem dX12_mostPair_22 : decode cX12_mostPair 22 = .ok (.ireturn, 1) := by decide +kernel
theorem dX12_mostPair_23 : decode cX12_mostPair 23 = .ok (.iload_n 2, 1) := by decide +kernel
theorem dX12_mostPair_24 : decode cX12_mostPair 24 = .ok (.iconst 2, 1) := by decide +kernel
theorem dX12_mostPair_25 : decode cX12_mostPair 25 = .ok (.if_icmp .ge 10, 3) := by decide +kernel
theorem dX12_mostPair_28 : decode cX12_mostPair 28 = .ok (.aload_n 0, 1) := by decide +kernel
theorem dX12_mostPair_29 : decode cX12_mostPair 29 = .ok (.bipush (-5), 2) := by decide +kernel
theorem dX12_mostPair_31 : decode cX12_mostPair 31 = .ok (.invokevirtual 75, 3) := by decide +kernel
theorem dX12_mostPair_34 : decode cX12_mostPair 34 = .ok (.ireturn, 1) := by decide +kernel
theorem dX12_mostPair_35 : decode cX12_mostPair 35 = .ok (.iload_n 3, 1) := by decide +kernel
theorem dX12_mostPair_36 : decode cX12_mostPair 36 = .ok (.ifCond .ne 7, 3) := by decide +kernel
theorem dX12_mostPair_39 : decode cX12_mostPair 39 = .ok (.iconst 1, 1) := by decide +kernel
theorem dX12_mostPair_40 : decode cX12_mostPair 40 = .ok (.goto 4, 3) := by decide +kernel
theorem dX12_mostPair_43 : decode cX12_mostPair 43 = .ok (.iconst 0, 1) := by decide +kernel
theorem dX12_mostPair_44 : decode cX12_mostPair 44 = .ok (.istore 4, 2) := by decide +kernel
theorem dX12_mostPair_46 : decode cX12_mostPair 46 = .ok (.iconst 0, 1) := by decide +kernel
theorem dX12_mostPair_47 : decode cX12_mostPair 47 = .ok (.istore 5, 2) := by decide +kernel
theorem dX12_mostPair_49 : decode cX12_mostPair 49 = .ok (.iload 5, 2) := by decide +kernel
theorem dX12_mostPair_51 : decode cX12_mostPair 51 = .ok (.iload_n 2, 1) := by decide +kernel
theorem dX12_mostPair_52 : decode cX12_mostPair 52 = .ok (.if_icmp .ge 27, 3) := by decide +kernel
theorem dX12_mostPair_55 : decode cX12_mostPair 55 = .ok (.iload 4, 2) := by decide +kernel
theorem dX12_mostPair_57 : decode cX12_mostPair 57 = .ok (.ifCond .eq 22, 3) := by decide +kernel
theorem dX12_mostPair_60 : decode cX12_mostPair 60 = .ok (.aload_n 0, 1) := by decide +kernel
theorem dX12_mostPair_61 : decode cX12_mostPair 61 = .ok (.aload_n 0, 1) := by decide +kernel
theorem dX12_mostPair_62 : decode cX12_mostPair 62 = .ok (.iload_n 1, 1) := by decide +kernel
theorem dX12_mostPair_63 : decode cX12_mostPair 63 = .ok (.iload 5, 2) := by decide +kernel
theorem dX12_mostPair_65 : decode cX12_mostPair 65 = .ok (.invokevirtual 253, 3) := by decide +kernel
theorem dX12_mostPair_68 : decode cX12_mostPair 68 = .ok (.invokevirtual 85, 3) := by decide +kernel
theorem dX12_mostPair_71 : decode cX12_mostPair 71 = .ok (.istore 4, 2) := by decide +kernel
theorem dX12_mostPair_73 : decode cX12_mostPair 73 = .ok (.iinc 5 1, 3) := by decide +kernel
theorem dX12_mostPair_76 : decode cX12_mostPair 76 = .ok (.goto (-27), 3) := by decide +kernel
theorem dX12_mostPair_79 : decode cX12_mostPair 79 = .ok (.iload 4, 2) := by decide +kernel
theorem dX12_mostPair_81 : decode cX12_mostPair 81 = .ok (.ifCond .ne 10, 3) := by decide +kernel
theorem dX12_mostPair_84 : decode cX12_mostPair 84 = .ok (.aload_n 0, 1) := by decide +kernel
theorem dX12_mostPair_85 : decode cX12_mostPair 85 = .ok (.bipush (-6), 2) := by decide +kernel
theorem dX12_mostPair_87 : decode cX12_mostPair 87 = .ok (.invokevirtual 75, 3) := by decide +kernel
theorem dX12_mostPair_90 : decode cX12_mostPair 90 = .ok (.ireturn, 1) := by decide +kernel
theorem dX12_mostPair_91 : decode cX12_mostPair 91 = .ok (.iconst (-1), 1) := by decide +kernel
theorem dX12_mostPair_92 : decode cX12_mostPair 92 = .ok (.istore 5, 2) := by decide +kernel
theorem dX12_mostPair_94 : decode cX12_mostPair 94 = .ok (.iconst 0, 1) := by decide +kernel
theorem dX12_mostPair_95 : decode cX12_mostPair 95 = .ok (.istore 6, 2) := by decide +kernel
theorem dX12_mostPair_97 : decode cX12_mostPair 97 = .ok (.iload 6, 2) := by decide +kernel
theorem dX12_mostPair_99 : decode cX12_mostPair 99 = .ok (.iconst 1, 1) := by decide +kernel
theorem dX12_mostPair_100 : decode cX12_mostPair 100 = .ok (.iadd, 1) := by decide +kernel
theorem dX12_mostPair_101 : decode cX12_mostPair 101 = .ok (.iload_n 2, 1) := by decide +kernel
theorem dX12_mostPair_102 : decode cX12_mostPair 102 = .ok (.if_icmp .ge 91, 3) := by decide +kernel
theorem dX12_mostPair_105 : decode cX12_mostPair 105 = .ok (.bipush 100, 2) := by decide +kernel
theorem dX12_mostPair_107 : decode cX12_mostPair 107 = .ok (.aload_n 0, 1) := by decide +kernel
theorem dX12_mostPair_108 : decode cX12_mostPair 108 = .ok (.iload_n 1, 1) := by decide +kernel
theorem dX12_mostPair_109 : decode cX12_mostPair 109 = .ok (.iload 6, 2) := by decide +kernel
theorem dX12_mostPair_111 : decode cX12_mostPair 111 = .ok (.invokevirtual 253, 3) := by decide +kernel
theorem dX12_mostPair_114 : decode cX12_mostPair 114 = .ok (.imul, 1) := by decide +kernel
theorem dX12_mostPair_115 : decode cX12_mostPair 115 = .ok (.aload_n 0, 1) := by decide +kernel
theorem dX12_mostPair_116 : decode cX12_mostPair 116 = .ok (.iload_n 1, 1) := by decide +kernel
theorem dX12_mostPair_117 : decode cX12_mostPair 117 = .ok (.iload 6, 2) := by decide +kernel
theorem dX12_mostPair_119 : decode cX12_mostPair 119 = .ok (.iconst 1, 1) := by decide +kernel
theorem dX12_mostPair_120 : decode cX12_mostPair 120 = .ok (.iadd, 1) := by decide +kernel
theorem dX12_mostPair_121 : decode cX12_mostPair 121 = .ok (.invokevirtual 253, 3) := by decide +kernel
theorem dX12_mostPair_124 : decode cX12_mostPair 124 = .ok (.iadd, 1) := by decide +kernel
theorem dX12_mostPair_125 : decode cX12_mostPair 125 = .ok (.istore 7, 2) := by decide +kernel
theorem dX12_mostPair_127 : decode cX12_mostPair 127 = .ok (.aload_n 0, 1) := by decide +kernel
theorem dX12_mostPair_128 : decode cX12_mostPair 128 = .ok (.iload_n 1, 1) := by decide +kernel
theorem dX12_mostPair_129 : decode cX12_mostPair 129 = .ok (.iload_n 2, 1) := by decide +kernel
theorem dX12_mostPair_130 : decode cX12_mostPair 130 = .ok (.iload 7, 2) := by decide +kernel
theorem dX12_mostPair_132 : decode cX12_mostPair 132 = .ok (.invokevirtual 262, 3) := by decide +kernel
theorem dX12_mostPair_135 : decode cX12_mostPair 135 = .ok (.istore 8, 2) := by decide +kernel
theorem dX12_mostPair_137 : decode cX12_mostPair 137 = .ok (.iload 5, 2) := by decide +kernel
theorem dX12_mostPair_139 : decode cX12_mostPair 139 = .ok (.iconst (-1), 1) := by decide +kernel
theorem dX12_mostPair_140 : decode cX12_mostPair 140 = .ok (.if_icmp .ne 7, 3) := by decide +kernel
theorem dX12_mostPair_143 : decode cX12_mostPair 143 = .ok (.iconst 0, 1) := by decide +kernel
theorem dX12_mostPair_144 : decode cX12_mostPair 144 = .ok (.goto 11, 3) := by decide +kernel
theorem dX12_mostPair_147 : decode cX12_mostPair 147 = .ok (.aload_n 0, 1) := by decide +kernel
theorem dX12_mostPair_148 : decode cX12_mostPair 148 = .ok (.iload_n 1, 1) := by decide +kernel
theorem dX12_mostPair_149 : decode cX12_mostPair 149 = .ok (.iload_n 2, 1) := by decide +kernel
theorem dX12_mostPair_150 : decode cX12_mostPair 150 = .ok (.iload 5, 2) := by decide +kernel
theorem dX12_mostPair_152 : decode cX12_mostPair 152 = .ok (.invokevirtual 262, 3) := by decide +kernel
theorem dX12_mostPair_155 : decode cX12_mostPair 155 = .ok (.istore 9, 2) := by decide +kernel
theorem dX12_mostPair_157 : decode cX12_mostPair 157 = .ok (.iload 8, 2) := by decide +kernel
theorem dX12_mostPair_159 : decode cX12_mostPair 159 = .ok (.iload 9, 2) := by decide +kernel
theorem dX12_mostPair_161 : decode cX12_mostPair 161 = .ok (.if_icmp .gt 17, 3) := by decide +kernel
theorem dX12_mostPair_164 : decode cX12_mostPair 164 = .ok (.iload 8, 2) := by decide +kernel
theorem dX12_mostPair_166 : decode cX12_mostPair 166 = .ok (.iload 9, 2) := by decide +kernel
theorem dX12_mostPair_168 : decode cX12_mostPair 168 = .ok (.if_icmp .ne 15, 3) := by decide +kernel
theorem dX12_mostPair_171 : decode cX12_mostPair 171 = .ok (.iload 7, 2) := by decide +kernel
theorem dX12_mostPair_173 : decode cX12_mostPair 173 = .ok (.iload 5, 2) := by decide +kernel
theorem dX12_mostPair_175 : decode cX12_mostPair 175 = .ok (.if_icmp .ge 8, 3) := by decide +kernel
theorem dX12_mostPair_178 : decode cX12_mostPair 178 = .ok (.iload 7, 2) := by decide +kernel
theorem dX12_mostPair_180 : decode cX12_mostPair 180 = .ok (.goto 5, 3) := by decide +kernel
theorem dX12_mostPair_183 : decode cX12_mostPair 183 = .ok (.iload 5, 2) := by decide +kernel
theorem dX12_mostPair_185 : decode cX12_mostPair 185 = .ok (.istore 5, 2) := by decide +kernel
theorem dX12_mostPair_187 : decode cX12_mostPair 187 = .ok (.iinc 6 1, 3) := by decide +kernel
theorem dX12_mostPair_190 : decode cX12_mostPair 190 = .ok (.goto (-93), 3) := by decide +kernel
theorem dX12_mostPair_193 : decode cX12_mostPair 193 = .ok (.iload 5, 2) := by decide +kernel
theorem dX12_mostPair_195 : decode cX12_mostPair 195 = .ok (.ireturn, 1) := by decide +kernel
theorem dX12_does_0 : decode cX12_does 0 = .ok (.aload_n 0, 1) := by decide +kernel
theorem dX12_does_1 : decode cX12_does 1 = .ok (.getfield 7, 3) := by decide +kernel
theorem dX12_does_4 : decode cX12_does 4 = .ok (.sipush 170, 3) := by decide +kernel
theorem dX12_does_7 : decode cX12_does 7 = .ok (.aload_n 0, 1) := by decide +kernel
theorem dX12_does_8 : decode cX12_does 8 = .ok (.aload_n 0, 1) := by decide +kernel
theorem dX12_does_9 : decode cX12_does 9 = .ok (.getfield 7, 3) := by decide +kernel
theorem dX12_does_12 : decode cX12_does 12 = .ok (.sipush 170, 3) := by decide +kernel
theorem dX12_does_15 : decode cX12_does 15 = .ok (.iaload, 1) := by decide +kernel
theorem dX12_does_16 : decode cX12_does 16 = .ok (.iload_n 1, 1) := by decide +kernel
theorem dX12_does_17 : decode cX12_does 17 = .ok (.invokevirtual 168, 3) := by decide +kernel
theorem dX12_does_20 : decode cX12_does 20 = .ok (.iastore, 1) := by decide +kernel
theorem dX12_does_21 : decode cX12_does 21 = .ok (.aload_n 0, 1) := by decide +kernel
theorem dX12_does_22 : decode cX12_does 22 = .ok (.getfield 60, 3) := by decide +kernel
theorem dX12_does_25 : decode cX12_does 25 = .ok (.aload_n 0, 1) := by decide +kernel
theorem dX12_does_26 : decode cX12_does 26 = .ok (.getfield 266, 3) := by decide +kernel
theorem dX12_does_29 : decode cX12_does 29 = .ok (.iload_n 1, 1) := by decide +kernel
theorem dX12_does_30 : decode cX12_does 30 = .ok (.iastore, 1) := by decide +kernel
theorem dX12_does_31 : decode cX12_does 31 = .ok (.aload_n 0, 1) := by decide +kernel
theorem dX12_does_32 : decode cX12_does 32 = .ok (.dup, 1) := by decide +kernel
theorem dX12_does_33 : decode cX12_does 33 = .ok (.getfield 266, 3) := by decide +kernel
theorem dX12_does_36 : decode cX12_does 36 = .ok (.iconst 1, 1) := by decide +kernel
theorem dX12_does_37 : decode cX12_does 37 = .ok (.iadd, 1) := by decide +kernel
theorem dX12_does_38 : decode cX12_does 38 = .ok (.putfield 266, 3) := by decide +kernel
theorem dX12_does_41 : decode cX12_does 41 = .ok (.return_, 1) := by decide +kernel
theorem dX12_greedy_0 : decode cX12_greedy 0 = .ok (.iload_n 1, 1) := by decide +kernel
theorem dX12_greedy_1 : decode cX12_greedy 1 = .ok (.iconst 0, 1) := by decide +kernel
theorem dX12_greedy_2 : decode cX12_greedy 2 = .ok (.iconst 3, 1) := by decide +kernel
theorem dX12_greedy_3 : decode cX12_greedy 3 = .ok (.invokestatic 67, 3) := by decide +kernel
theorem dX12_greedy_6 : decode cX12_greedy 6 = .ok (.ifCond .ne 9, 3) := by decide +kernel
theorem dX12_greedy_9 : decode cX12_greedy 9 = .ok (.aload_n 0, 1) := by decide +kernel
theorem dX12_greedy_10 : decode cX12_greedy 10 = .ok (.iconst (-1), 1) := by decide +kernel
theorem dX12_greedy_11 : decode cX12_greedy 11 = .ok (.invokevirtual 75, 3) := by decide +kernel
theorem dX12_greedy_14 : decode cX12_greedy 14 = .ok (.ireturn, 1) := by decide +kernel
theorem dX12_greedy_15 : decode cX12_greedy 15 = .ok (.iload_n 2, 1) := by decide +kernel
theorem dX12_greedy_16 : decode cX12_greedy 16 = .ok (.iconst 1, 1) := by decide +kernel
theorem dX12_greedy_17 : decode cX12_greedy 17 = .ok (.bipush 40, 2) := by decide +kernel
theorem dX12_greedy_19 : decode cX12_greedy 19 = .ok (.invokestatic 67, 3) := by decide +kernel
theorem dX12_greedy_22 : decode cX12_greedy 22 = .ok (.ifCond .ne 10, 3) := by decide +kernel
theorem dX12_greedy_25 : decode cX12_greedy 25 = .ok (.aload_n 0, 1) := by decide +kernel
theorem dX12_greedy_26 : decode cX12_greedy 26 = .ok (.bipush (-6), 2) := by decide +kernel
theorem dX12_greedy_28 : decode cX12_greedy 28 = .ok (.invokevirtual 75, 3) := by decide +kernel
theorem dX12_greedy_31 : decode cX12_greedy 31 = .ok (.ireturn, 1) := by decide +kernel
theorem dX12_greedy_32 : decode cX12_greedy 32 = .ok (.aload_n 0, 1) := by decide +kernel
theorem dX12_greedy_33 : decode cX12_greedy 33 = .ok (.iconst 0, 1) := by decide +kernel
theorem dX12_greedy_34 : decode cX12_greedy 34 = .ok (.putfield 266, 3) := by decide +kernel
theorem dX12_greedy_37 : decode cX12_greedy 37 = .ok (.aload_n 0, 1) := by decide +kernel
theorem dX12_greedy_38 : decode cX12_greedy 38 = .ok (.getfield 266, 3) := by decide +kernel
theorem dX12_greedy_41 : decode cX12_greedy 41 = .ok (.iload_n 2, 1) := by decide +kernel
theorem dX12_greedy_42 : decode cX12_greedy 42 = .ok (.if_icmp .ge 156, 3) := by decide +kernel
theorem dX12_greedy_45 : decode cX12_greedy 45 = .ok (.aload_n 0, 1) := by decide +kernel
theorem dX12_greedy_46 : decode cX12_greedy 46 = .ok (.getfield 7, 3) := by decide +kernel
theorem dX12_greedy_49 : decode cX12_greedy 49 = .ok (.sipush 170, 3) := by decide +kernel
theorem dX12_greedy_52 : decode cX12_greedy 52 = .ok (.iaload, 1) := by decide +kernel
theorem dX12_greedy_53 : decode cX12_greedy 53 = .ok (.aload_n 0, 1) := by decide +kernel
theorem dX12_greedy_54 : decode cX12_greedy 54 = .ok (.getfield 7, 3) := by decide +kernel
theorem dX12_greedy_57 : decode cX12_greedy 57 = .ok (.sipush 169, 3) := by decide +kernel
theorem dX12_greedy_60 : decode cX12_greedy 60 = .ok (.iaload, 1) := by decide +kernel
theorem dX12_greedy_61 : decode cX12_greedy 61 = .ok (.invokestatic 161, 3) := by decide +kernel
theorem dX12_greedy_64 : decode cX12_greedy 64 = .ok (.ifCond .ne 134, 3) := by decide +kernel
theorem dX12_greedy_67 : decode cX12_greedy 67 = .ok (.iconst (-1), 1) := by decide +kernel
theorem dX12_greedy_68 : decode cX12_greedy 68 = .ok (.istore_n 3, 1) := by decide +kernel
theorem dX12_greedy_69 : decode cX12_greedy 69 = .ok (.ldc_w 269, 3) := by decide +kernel
theorem dX12_greedy_72 : decode cX12_greedy 72 = .ok (.istore 4, 2) := by decide +kernel
theorem dX12_greedy_74 : decode cX12_greedy 74 = .ok (.iconst 0, 1) := by decide +kernel
theorem dX12_greedy_75 : decode cX12_greedy 75 = .ok (.istore 5, 2) := by decide +kernel
theorem dX12_greedy_77 : decode cX12_greedy 77 = .ok (.iload 5, 2) := by decide +kernel
theorem dX12_greedy_79 : decode cX12_greedy 79 = .ok (.aload_n 0, 1) := by decide +kernel
theorem dX12_greedy_80 : decode cX12_greedy 80 = .ok (.getfield 7, 3) := by decide +kernel
theorem dX12_greedy_83 : decode cX12_greedy 83 = .ok (.sipush 172, 3) := by decide +kernel
theorem dX12_greedy_86 : decode cX12_greedy 86 = .ok (.iaload, 1) := by decide +kernel
theorem dX12_greedy_87 : decode cX12_greedy 87 = .ok (.if_icmp .ge 93, 3) := by decide +kernel
theorem dX12_greedy_90 : decode cX12_greedy 90 = .ok (.aload_n 0, 1) := by decide +kernel
theorem dX12_greedy_91 : decode cX12_greedy 91 = .ok (.aload_n 0, 1) := by decide +kernel
theorem dX12_greedy_92 : decode cX12_greedy 92 = .ok (.getfield 7, 3) := by decide +kernel
theorem dX12_greedy_95 : decode cX12_greedy 95 = .ok (.sipush 170, 3) := by decide +kernel
theorem dX12_greedy_98 : decode cX12_greedy 98 = .ok (.iaload, 1) := by decide +kernel
theorem dX12_greedy_99 : decode cX12_greedy 99 = .ok (.iload 5, 2) := by decide +kernel
theorem dX12_greedy_101 : decode cX12_greedy 101 = .ok (.invokevirtual 165, 3) := by decide +kernel
theorem dX12_greedy_104 : decode cX12_greedy 104 = .ok (.ifCond .eq 25, 3) := by decide +kernel
theorem dX12_greedy_107 : decode cX12_greedy 107 = .ok (.aload_n 0, 1) := by decide +kernel
theorem dX12_greedy_108 : decode cX12_greedy 108 = .ok (.aload_n 0, 1) := by decide +kernel
theorem dX12_greedy_109 : decode cX12_greedy 109 = .ok (.aload_n 0, 1) := by decide +kernel
theorem dX12_greedy_110 : decode cX12_greedy 110 = .ok (.getfield 7, 3) := by decide +kernel
theorem dX12_greedy_113 : decode cX12_greedy 113 = .ok (.sipush 170, 3) := by decide +kernel
theorem dX12_greedy_116 : decode cX12_greedy 116 = .ok (.iaload, 1) := by decide +kernel
theorem dX12_greedy_117 : decode cX12_greedy 117 = .ok (.iload 5, 2) := by decide +kernel
theorem dX12_greedy_119 : decode cX12_greedy 119 = .ok (.invokevirtual 168, 3) := by decide +kernel
theorem dX12_greedy_122 : decode cX12_greedy 122 = .ok (.iload_n 1, 1) := by decide +kernel
theorem dX12_greedy_123 : decode cX12_greedy 123 = .ok (.invokevirtual 223, 3) := by decide +kernel
theorem dX12_greedy_126 : decode cX12_greedy 126 = .ok (.goto 4, 3) := by decide +kernel
theorem dX12_greedy_129 : decode cX12_greedy 129 = .ok (.iconst (-1), 1) := by decide +kernel
theorem dX12_greedy_130 : decode cX12_greedy 130 = .ok (.istore 6, 2) := by decide +kernel
theorem dX12_greedy_132 : decode cX12_greedy 132 = .ok (.iload 6, 2) := by decide +kernel
theorem dX12_greedy_134 : decode cX12_greedy 134 = .ok (.iconst (-1), 1) := by decide +kernel
theorem dX12_greedy_135 : decode cX12_greedy 135 = .ok (.if_icmp .eq 15, 3) := by decide +kernel
theorem dX12_greedy_138 : decode cX12_greedy 138 = .ok (.iload 6, 2) := by decide +kernel
theorem dX12_greedy_140 : decode cX12_greedy 140 = .ok (.iload 4, 2) := by decide +kernel
theorem dX12_greedy_142 : decode cX12_greedy 142 = .ok (.if_icmp .ge 8, 3) := by decide +kernel
theorem dX12_greedy_145 : decode cX12_greedy 145 = .ok (.iload 5, 2) := by decide +kernel
theorem dX12_greedy_147 : decode cX12_greedy 147 = .ok (.goto 4, 3) := by decide +kernel
theorem dX12_greedy_150 : decode cX12_greedy 150 = .ok (.iload_n 3, 1) := by decide +kernel
theorem dX12_greedy_151 : decode cX12_greedy 151 = .ok (.istore_n 3, 1) := by decide +kernel
theorem dX12_greedy_152 : decode cX12_greedy 152 = .ok (.iload 6, 2) := by decide +kernel
theorem dX12_greedy_154 : decode cX12_greedy 154 = .ok (.iconst (-1), 1) := by decide +kernel
theorem dX12_greedy_155 : decode cX12_greedy 155 = .ok (.if_icmp .eq 15, 3) := by decide +kernel
theorem dX12_greedy_158 : decode cX12_greedy 158 = .ok (.iload 6, 2) := by decide +kernel
theorem dX12_greedy_160 : decode cX12_greedy 160 = .ok (.iload 4, 2) := by decide +kernel
theorem dX12_greedy_162 : decode cX12_greedy 162 = .ok (.if_icmp .ge 8, 3) := by decide +kernel
theorem dX12_greedy_165 : decode cX12_greedy 165 = .ok (.iload 6, 2) := by decide +kernel
theorem dX12_greedy_167 : decode cX12_greedy 167 = .ok (.goto 5, 3) := by decide +kernel
theorem dX12_greedy_170 : decode cX12_greedy 170 = .ok (.iload 4, 2) := by decide +kernel
theorem dX12_greedy_172 : decode cX12_greedy 172 = .ok (.istore 4, 2) := by decide +kernel
theorem dX12_greedy_174 : decode cX12_greedy 174 = .ok (.iinc 5 1, 3) := by decide +kernel
theorem dX12_greedy_177 : decode cX12_greedy 177 = .ok (.goto (-100), 3) := by decide +kernel
theorem dX12_greedy_180 : decode cX12_greedy 180 = .ok (.iload_n 3, 1) := by decide +kernel
theorem dX12_greedy_181 : decode cX12_greedy 181 = .ok (.iconst (-1), 1) := by decide +kernel
theorem dX12_greedy_182 : decode cX12_greedy 182 = .ok (.if_icmp .ne 8, 3) := by decide +kernel
theorem dX12_greedy_185 : decode cX12_greedy 185 = .ok (.aload_n 0, 1) := by decide +kernel
theorem dX12_greedy_186 : decode cX12_greedy 186 = .ok (.getfield 266, 3) := by decide +kernel
theorem dX12_greedy_189 : decode cX12_greedy 189 = .ok (.ireturn, 1) := by decide +kernel
theorem dX12_greedy_190 : decode cX12_greedy 190 = .ok (.aload_n 0, 1) := by decide +kernel
theorem dX12_greedy_191 : decode cX12_greedy 191 = .ok (.iload_n 3, 1) := by decide +kernel
theorem dX12_greedy_192 : decode cX12_greedy 192 = .ok (.invokevirtual 270, 3) := by decide +kernel
theorem dX12_greedy_195 : decode cX12_greedy 195 = .ok (.goto (-158), 3) := by decide +kernel
theorem dX12_greedy_198 : decode cX12_greedy 198 = .ok (.aload_n 0, 1) := by decide +kernel
theorem dX12_greedy_199 : decode cX12_greedy 199 = .ok (.getfield 266, 3) := by decide +kernel
theorem dX12_greedy_202 : decode cX12_greedy 202 = .ok (.ireturn, 1) := by decide +kernel
theorem dX12_drawn_0 : decode cX12_drawn 0 = .ok (.aload_n 0, 1) := by decide +kernel
theorem dX12_drawn_1 : decode cX12_drawn 1 = .ok (.getfield 7, 3) := by decide +kernel
theorem dX12_drawn_4 : decode cX12_drawn 4 = .ok (.sipush 171, 3) := by decide +kernel
theorem dX12_drawn_7 : decode cX12_drawn 7 = .ok (.aload_n 0, 1) := by decide +kernel
theorem dX12_drawn_8 : decode cX12_drawn 8 = .ok (.getfield 7, 3) := by decide +kernel
theorem dX12_drawn_11 : decode cX12_drawn 11 = .ok (.sipush 171, 3) := by decide +kernel
theorem dX12_drawn_14 : decode cX12_drawn 14 = .ok (.iaload, 1) := by decide +kernel
theorem dX12_drawn_15 : decode cX12_drawn 15 = .ok (.ldc_w 273, 3) := by decide +kernel
theorem dX12_drawn_18 : decode cX12_drawn 18 = .ok (.imul, 1) := by decide +kernel
theorem dX12_drawn_19 : decode cX12_drawn 19 = .ok (.sipush 12345, 3) := by decide +kernel
theorem dX12_drawn_22 : decode cX12_drawn 22 = .ok (.iadd, 1) := by decide +kernel
theorem dX12_drawn_23 : decode cX12_drawn 23 = .ok (.iastore, 1) := by decide +kernel
theorem dX12_drawn_24 : decode cX12_drawn 24 = .ok (.aload_n 0, 1) := by decide +kernel
theorem dX12_drawn_25 : decode cX12_drawn 25 = .ok (.getfield 7, 3) := by decide +kernel
theorem dX12_drawn_28 : decode cX12_drawn 28 = .ok (.sipush 171, 3) := by decide +kernel
theorem dX12_drawn_31 : decode cX12_drawn 31 = .ok (.iaload, 1) := by decide +kernel
theorem dX12_drawn_32 : decode cX12_drawn 32 = .ok (.bipush 16, 2) := by decide +kernel
theorem dX12_drawn_34 : decode cX12_drawn 34 = .ok (.iushr, 1) := by decide +kernel
theorem dX12_drawn_35 : decode cX12_drawn 35 = .ok (.iload_n 1, 1) := by decide +kernel
theorem dX12_drawn_36 : decode cX12_drawn 36 = .ok (.irem, 1) := by decide +kernel
theorem dX12_drawn_37 : decode cX12_drawn 37 = .ok (.ireturn, 1) := by decide +kernel
theorem dX12_walk_0 : decode cX12_walk 0 = .ok (.iload_n 1, 1) := by decide +kernel
theorem dX12_walk_1 : decode cX12_walk 1 = .ok (.iconst 1, 1) := by decide +kernel
theorem dX12_walk_2 : decode cX12_walk 2 = .ok (.bipush 40, 2) := by decide +kernel
theorem dX12_walk_4 : decode cX12_walk 4 = .ok (.invokestatic 67, 3) := by decide +kernel
theorem dX12_walk_7 : decode cX12_walk 7 = .ok (.ifCond .ne 10, 3) := by decide +kernel
theorem dX12_walk_10 : decode cX12_walk 10 = .ok (.aload_n 0, 1) := by decide +kernel
theorem dX12_walk_11 : decode cX12_walk 11 = .ok (.bipush (-6), 2) := by decide +kernel
theorem dX12_walk_13 : decode cX12_walk 13 = .ok (.invokevirtual 75, 3) := by decide +kernel
theorem dX12_walk_16 : decode cX12_walk 16 = .ok (.ireturn, 1) := by decide +kernel
theorem dX12_walk_17 : decode cX12_walk 17 = .ok (.aload_n 0, 1) := by decide +kernel
theorem dX12_walk_18 : decode cX12_walk 18 = .ok (.iconst 0, 1) := by decide +kernel
theorem dX12_walk_19 : decode cX12_walk 19 = .ok (.putfield 266, 3) := by decide +kernel
theorem dX12_walk_22 : decode cX12_walk 22 = .ok (.aload_n 0, 1) := by decide +kernel
theorem dX12_walk_23 : decode cX12_walk 23 = .ok (.getfield 266, 3) := by decide +kernel
theorem dX12_walk_26 : decode cX12_walk 26 = .ok (.iload_n 1, 1) := by decide +kernel
theorem dX12_walk_27 : decode cX12_walk 27 = .ok (.if_icmp .ge 128, 3) := by decide +kernel
theorem dX12_walk_30 : decode cX12_walk 30 = .ok (.iconst 0, 1) := by decide +kernel
theorem dX12_walk_31 : decode cX12_walk 31 = .ok (.istore_n 2, 1) := by decide +kernel
theorem dX12_walk_32 : decode cX12_walk 32 = .ok (.iconst 0, 1) := by decide +kernel
theorem dX12_walk_33 : decode cX12_walk 33 = .ok (.istore_n 3, 1) := by decide +kernel
theorem dX12_walk_34 : decode cX12_walk 34 = .ok (.iload_n 3, 1) := by decide +kernel
theorem dX12_walk_35 : decode cX12_walk 35 = .ok (.aload_n 0, 1) := by decide +kernel
theorem dX12_walk_36 : decode cX12_walk 36 = .ok (.getfield 7, 3) := by decide +kernel
theorem dX12_walk_39 : decode cX12_walk 39 = .ok (.sipush 172, 3) := by decide +kernel
theorem dX12_walk_42 : decode cX12_walk 42 = .ok (.iaload, 1) := by decide +kernel
theorem dX12_walk_43 : decode cX12_walk 43 = .ok (.if_icmp .ge 33, 3) := by decide +kernel
theorem dX12_walk_46 : decode cX12_walk 46 = .ok (.iload_n 2, 1) := by decide +kernel
theorem dX12_walk_47 : decode cX12_walk 47 = .ok (.aload_n 0, 1) := by decide +kernel
theorem dX12_walk_48 : decode cX12_walk 48 = .ok (.aload_n 0, 1) := by decide +kernel
theorem dX12_walk_49 : decode cX12_walk 49 = .ok (.getfield 7, 3) := by decide +kernel
theorem dX12_walk_52 : decode cX12_walk 52 = .ok (.sipush 170, 3) := by decide +kernel
theorem dX12_walk_55 : decode cX12_walk 55 = .ok (.iaload, 1) := by decide +kernel
theorem dX12_walk_56 : decode cX12_walk 56 = .ok (.iload_n 3, 1) := by decide +kernel
theorem dX12_walk_57 : decode cX12_walk 57 = .ok (.invokevirtual 165, 3) := by decide +kernel
theorem dX12_walk_60 : decode cX12_walk 60 = .ok (.ifCond .eq 7, 3) := by decide +kernel
theorem dX12_walk_63 : decode cX12_walk 63 = .ok (.iconst 1, 1) := by decide +kernel
theorem dX12_walk_64 : decode cX12_walk 64 = .ok (.goto 4, 3) := by decide +kernel
theorem dX12_walk_67 : decode cX12_walk 67 = .ok (.iconst 0, 1) := by decide +kernel
theorem dX12_walk_68 : decode cX12_walk 68 = .ok (.iadd, 1) := by decide +kernel
theorem dX12_walk_69 : decode cX12_walk 69 = .ok (.istore_n 2, 1) := by decide +kernel
theorem dX12_walk_70 : decode cX12_walk 70 = .ok (.iinc 3 1, 3) := by decide +kernel
theorem dX12_walk_73 : decode cX12_walk 73 = .ok (.goto (-39), 3) := by decide +kernel
theorem dX12_walk_76 : decode cX12_walk 76 = .ok (.iload_n 2, 1) := by decide +kernel
theorem dX12_walk_77 : decode cX12_walk 77 = .ok (.ifCond .ne 8, 3) := by decide +kernel
theorem dX12_walk_80 : decode cX12_walk 80 = .ok (.aload_n 0, 1) := by decide +kernel
theorem dX12_walk_81 : decode cX12_walk 81 = .ok (.getfield 266, 3) := by decide +kernel
theorem dX12_walk_84 : decode cX12_walk 84 = .ok (.ireturn, 1) := by decide +kernel
theorem dX12_walk_85 : decode cX12_walk 85 = .ok (.aload_n 0, 1) := by decide +kernel
theorem dX12_walk_86 : decode cX12_walk 86 = .ok (.iload_n 2, 1) := by decide +kernel
theorem dX12_walk_87 : decode cX12_walk 87 = .ok (.invokevirtual 274, 3) := by decide +kernel
theorem dX12_walk_90 : decode cX12_walk 90 = .ok (.istore_n 3, 1) := by decide +kernel
theorem dX12_walk_91 : decode cX12_walk 91 = .ok (.iconst 0, 1) := by decide +kernel
theorem dX12_walk_92 : decode cX12_walk 92 = .ok (.istore 4, 2) := by decide +kernel
theorem dX12_walk_94 : decode cX12_walk 94 = .ok (.aload_n 0, 1) := by decide +kernel
theorem dX12_walk_95 : decode cX12_walk 95 = .ok (.aload_n 0, 1) := by decide +kernel
theorem dX12_walk_96 : decode cX12_walk 96 = .ok (.getfield 7, 3) := by decide +kernel
theorem dX12_walk_99 : decode cX12_walk 99 = .ok (.sipush 170, 3) := by decide +kernel
theorem dX12_walk_102 : decode cX12_walk 102 = .ok (.iaload, 1) := by decide +kernel
theorem dX12_walk_103 : decode cX12_walk 103 = .ok (.iload 4, 2) := by decide +kernel
theorem dX12_walk_105 : decode cX12_walk 105 = .ok (.invokevirtual 165, 3) := by decide +kernel
theorem dX12_walk_108 : decode cX12_walk 108 = .ok (.ifCond .eq 7, 3) := by decide +kernel
theorem dX12_walk_111 : decode cX12_walk 111 = .ok (.iload_n 3, 1) := by decide +kernel
theorem dX12_walk_112 : decode cX12_walk 112 = .ok (.ifCond .le 34, 3) := by decide +kernel
theorem dX12_walk_115 : decode cX12_walk 115 = .ok (.iload_n 3, 1) := by decide +kernel
theorem dX12_walk_116 : decode cX12_walk 116 = .ok (.aload_n 0, 1) := by decide +kernel
theorem dX12_walk_117 : decode cX12_walk 117 = .ok (.aload_n 0, 1) := by decide +kernel
theorem dX12_walk_118 : decode cX12_walk 118 = .ok (.getfield 7, 3) := by decide +kernel
theorem dX12_walk_121 : decode cX12_walk 121 = .ok (.sipush 170, 3) := by decide +kernel
theorem dX12_walk_124 : decode cX12_walk 124 = .ok (.iaload, 1) := by decide +kernel
theorem dX12_walk_125 : decode cX12_walk 125 = .ok (.iload 4, 2) := by decide +kernel
theorem dX12_walk_127 : decode cX12_walk 127 = .ok (.invokevirtual 165, 3) := by decide +kernel
theorem dX12_walk_130 : decode cX12_walk 130 = .ok (.ifCond .eq 7, 3) := by decide +kernel
theorem dX12_walk_133 : decode cX12_walk 133 = .ok (.iconst 1, 1) := by decide +kernel
theorem dX12_walk_134 : decode cX12_walk 134 = .ok (.goto 4, 3) := by decide +kernel
theorem dX12_walk_137 : decode cX12_walk 137 = .ok (.iconst 0, 1) := by decide +kernel
theorem dX12_walk_138 : decode cX12_walk 138 = .ok (.isub, 1) := by decide +kernel
theorem dX12_walk_139 : decode cX12_walk 139 = .ok (.istore_n 3, 1) := by decide +kernel
theorem dX12_walk_140 : decode cX12_walk 140 = .ok (.iinc 4 1, 3) := by decide +kernel
theorem dX12_walk_143 : decode cX12_walk 143 = .ok (.goto (-49), 3) := by decide +kernel
theorem dX12_walk_146 : decode cX12_walk 146 = .ok (.aload_n 0, 1) := by decide +kernel
theorem dX12_walk_147 : decode cX12_walk 147 = .ok (.iload 4, 2) := by decide +kernel
theorem dX12_walk_149 : decode cX12_walk 149 = .ok (.invokevirtual 270, 3) := by decide +kernel
theorem dX12_walk_152 : decode cX12_walk 152 = .ok (.goto (-130), 3) := by decide +kernel
theorem dX12_walk_155 : decode cX12_walk 155 = .ok (.aload_n 0, 1) := by decide +kernel
theorem dX12_walk_156 : decode cX12_walk 156 = .ok (.getfield 266, 3) := by decide +kernel
theorem dX12_walk_159 : decode cX12_walk 159 = .ok (.ireturn, 1) := by decide +kernel
theorem dX12_seed_0 : decode cX12_seed 0 = .ok (.aload_n 0, 1) := by decide +kernel
theorem dX12_seed_1 : decode cX12_seed 1 = .ok (.getfield 7, 3) := by decide +kernel
theorem dX12_seed_4 : decode cX12_seed 4 = .ok (.sipush 171, 3) := by decide +kernel
theorem dX12_seed_7 : decode cX12_seed 7 = .ok (.iaload, 1) := by decide +kernel
theorem dX12_seed_8 : decode cX12_seed 8 = .ok (.istore_n 2, 1) := by decide +kernel
theorem dX12_seed_9 : decode cX12_seed 9 = .ok (.aload_n 0, 1) := by decide +kernel
theorem dX12_seed_10 : decode cX12_seed 10 = .ok (.getfield 7, 3) := by decide +kernel
theorem dX12_seed_13 : decode cX12_seed 13 = .ok (.sipush 171, 3) := by decide +kernel
theorem dX12_seed_16 : decode cX12_seed 16 = .ok (.iload_n 1, 1) := by decide +kernel
theorem dX12_seed_17 : decode cX12_seed 17 = .ok (.iastore, 1) := by decide +kernel
theorem dX12_seed_18 : decode cX12_seed 18 = .ok (.iload_n 2, 1) := by decide +kernel
theorem dX12_seed_19 : decode cX12_seed 19 = .ok (.ireturn, 1) := by decide +kernel
theorem dX12_trace_0 : decode cX12_trace 0 = .ok (.iload_n 1, 1) := by decide +kernel
theorem dX12_trace_1 : decode cX12_trace 1 = .ok (.iconst 0, 1) := by decide +kernel
theorem dX12_trace_2 : decode cX12_trace 2 = .ok (.aload_n 0, 1) := by decide +kernel
theorem dX12_trace_3 : decode cX12_trace 3 = .ok (.getfield 266, 3) := by decide +kernel
theorem dX12_trace_6 : decode cX12_trace 6 = .ok (.iconst 1, 1) := by decide +kernel
theorem dX12_trace_7 : decode cX12_trace 7 = .ok (.isub, 1) := by decide +kernel
theorem dX12_trace_8 : decode cX12_trace 8 = .ok (.invokestatic 67, 3) := by decide +kernel
theorem dX12_trace_11 : decode cX12_trace 11 = .ok (.ifCond .eq 12, 3) := by decide +kernel
theorem dX12_trace_14 : decode cX12_trace 14 = .ok (.aload_n 0, 1) := by decide +kernel
theorem dX12_trace_15 : decode cX12_trace 15 = .ok (.getfield 60, 3) := by decide +kernel
theorem dX12_trace_18 : decode cX12_trace 18 = .ok (.iload_n 1, 1) := by decide +kernel
theorem dX12_trace_19 : decode cX12_trace 19 = .ok (.iaload, 1) := by decide +kernel
theorem dX12_trace_20 : decode cX12_trace 20 = .ok (.goto 4, 3) := by decide +kernel
theorem dX12_trace_23 : decode cX12_trace 23 = .ok (.iconst (-1), 1) := by decide +kernel
theorem dX12_trace_24 : decode cX12_trace 24 = .ok (.ireturn, 1) := by decide +kernel
theorem dX12_image_0 : decode cX12_image 0 = .ok (.iconst 0, 1) := by decide +kernel
theorem dX12_image_1 : decode cX12_image 1 = .ok (.istore_n 1, 1) := by decide +kernel
theorem dX12_image_2 : decode cX12_image 2 = .ok (.iload_n 1, 1) := by decide +kernel
theorem dX12_image_3 : decode cX12_image 3 = .ok (.sipush 173, 3) := by decide +kernel
theorem dX12_image_6 : decode cX12_image 6 = .ok (.if_icmp .ge 21, 3) := by decide +kernel
theorem dX12_image_9 : decode cX12_image 9 = .ok (.aload_n 0, 1) := by decide +kernel
theorem dX12_image_10 : decode cX12_image 10 = .ok (.getfield 13, 3) := by decide +kernel
theorem dX12_image_13 : decode cX12_image 13 = .ok (.iload_n 1, 1) := by decide +kernel
theorem dX12_image_14 : decode cX12_image 14 = .ok (.aload_n 0, 1) := by decide +kernel
theorem dX12_image_15 : decode cX12_image 15 = .ok (.getfield 7, 3) := by decide +kernel
theorem dX12_image_18 : decode cX12_image 18 = .ok (.iload_n 1, 1) := by decide +kernel
theorem dX12_image_19 : decode cX12_image 19 = .ok (.iaload, 1) := by decide +kernel
theorem dX12_image_20 : decode cX12_image 20 = .ok (.iastore, 1) := by decide +kernel
theorem dX12_image_21 : decode cX12_image 21 = .ok (.iinc 1 1, 3) := by decide +kernel
theorem dX12_image_24 : decode cX12_image 24 = .ok (.goto (-22), 3) := by decide +kernel
theorem dX12_image_27 : decode cX12_image 27 = .ok (.aload_n 0, 1) := by decide +kernel
theorem dX12_image_28 : decode cX12_image 28 = .ok (.iconst 1, 1) := by decide +kernel
theorem dX12_image_29 : decode cX12_image 29 = .ok (.putfield 277, 3) := by decide +kernel
theorem dX12_image_32 : decode cX12_image 32 = .ok (.aload_n 0, 1) := by decide +kernel
theorem dX12_image_33 : decode cX12_image 33 = .ok (.getfield 7, 3) := by decide +kernel
theorem dX12_image_36 : decode cX12_image 36 = .ok (.sipush 172, 3) := by decide +kernel
theorem dX12_image_39 : decode cX12_image 39 = .ok (.iaload, 1) := by decide +kernel
theorem dX12_image_40 : decode cX12_image 40 = .ok (.ireturn, 1) := by decide +kernel
theorem dX12_restore_0 : decode cX12_restore 0 = .ok (.aload_n 0, 1) := by decide +kernel
theorem dX12_restore_1 : decode cX12_restore 1 = .ok (.getfield 277, 3) := by decide +kernel
theorem dX12_restore_4 : decode cX12_restore 4 = .ok (.ifCond .ne 10, 3) := by decide +kernel
theorem dX12_restore_7 : decode cX12_restore 7 = .ok (.aload_n 0, 1) := by decide +kernel
theorem dX12_restore_8 : decode cX12_restore 8 = .ok (.bipush (-6), 2) := by decide +kernel
theorem dX12_restore_10 : decode cX12_restore 10 = .ok (.invokevirtual 75, 3) := by decide +kernel
theorem dX12_restore_13 : decode cX12_restore 13 = .ok (.ireturn, 1) := by decide +kernel
theorem dX12_restore_14 : decode cX12_restore 14 = .ok (.iconst 0, 1) := by decide +kernel
theorem dX12_restore_15 : decode cX12_restore 15 = .ok (.istore_n 1, 1) := by decide +kernel
theorem dX12_restore_16 : decode cX12_restore 16 = .ok (.iload_n 1, 1) := by decide +kernel
theorem dX12_restore_17 : decode cX12_restore 17 = .ok (.sipush 173, 3) := by decide +kernel
theorem dX12_restore_20 : decode cX12_restore 20 = .ok (.if_icmp .ge 21, 3) := by decide +kernel
theorem dX12_restore_23 : decode cX12_restore 23 = .ok (.aload_n 0, 1) := by decide +kernel
theorem dX12_restore_24 : decode cX12_restore 24 = .ok (.getfield 7, 3) := by decide +kernel
theorem dX12_restore_27 : decode cX12_restore 27 = .ok (.iload_n 1, 1) := by decide +kernel
theorem dX12_restore_28 : decode cX12_restore 28 = .ok (.aload_n 0, 1) := by decide +kernel
theorem dX12_restore_29 : decode cX12_restore 29 = .ok (.getfield 13, 3) := by decide +kernel
theorem dX12_restore_32 : decode cX12_restore 32 = .ok (.iload_n 1, 1) := by decide +kernel
theorem dX12_restore_33 : decode cX12_restore 33 = .ok (.iaload, 1) := by decide +kernel
theorem dX12_restore_34 : decode cX12_restore 34 = .ok (.iastore, 1) := by decide +kernel
theorem dX12_restore_35 : decode cX12_restore 35 = .ok (.iinc 1 1, 3) := by decide +kernel
theorem dX12_restore_38 : decode cX12_restore 38 = .ok (.goto (-22), 3) := by decide +kernel
theorem dX12_restore_41 : decode cX12_restore 41 = .ok (.iconst 0, 1) := by decide +kernel
theorem dX12_restore_42 : decode cX12_restore 42 = .ok (.istore_n 1, 1) := by decide +kernel
theorem dX12_restore_43 : decode cX12_restore 43 = .ok (.iload_n 1, 1) := by decide +kernel
theorem dX12_restore_44 : decode cX12_restore 44 = .ok (.bipush 8, 2) := by decide +kernel
theorem dX12_restore_46 : decode cX12_restore 46 = .ok (.if_icmp .ge 39, 3) := by decide +kernel
theorem dX12_restore_49 : decode cX12_restore 49 = .ok (.aload_n 0, 1) := by decide +kernel
theorem dX12_restore_50 : decode cX12_restore 50 = .ok (.getfield 19, 3) := by decide +kernel
theorem dX12_restore_53 : decode cX12_restore 53 = .ok (.iload_n 1, 1) := by decide +kernel
theorem dX12_restore_54 : decode cX12_restore 54 = .ok (.iaload, 1) := by decide +kernel
theorem dX12_restore_55 : decode cX12_restore 55 = .ok (.iconst 4, 1) := by decide +kernel
theorem dX12_restore_56 : decode cX12_restore 56 = .ok (.if_icmp .ne 23, 3) := by decide +kernel
theorem dX12_restore_59 : decode cX12_restore 59 = .ok (.aload_n 0, 1) := by decide +kernel
theorem dX12_restore_60 : decode cX12_restore 60 = .ok (.aload_n 0, 1) := by decide +kernel
theorem dX12_restore_61 : decode cX12_restore 61 = .ok (.getfield 22, 3) := by decide +kernel
theorem dX12_restore_64 : decode cX12_restore 64 = .ok (.iload_n 1, 1) := by decide +kernel
theorem dX12_restore_65 : decode cX12_restore 65 = .ok (.iaload, 1) := by decide +kernel
theorem dX12_restore_66 : decode cX12_restore 66 = .ok (.invokevirtual 85, 3) := by decide +kernel
theorem dX12_restore_69 : decode cX12_restore 69 = .ok (.ifCond .ne 10, 3) := by decide +kernel
theorem dX12_restore_72 : decode cX12_restore 72 = .ok (.aload_n 0, 1) := by decide +kernel
theorem dX12_restore_73 : decode cX12_restore 73 = .ok (.getfield 19, 3) := by decide +kernel
theorem dX12_restore_76 : decode cX12_restore 76 = .ok (.iload_n 1, 1) := by decide +kernel
theorem dX12_restore_77 : decode cX12_restore 77 = .ok (.iconst (-1), 1) := by decide +kernel
theorem dX12_restore_78 : decode cX12_restore 78 = .ok (.iastore, 1) := by decide +kernel
theorem dX12_restore_79 : decode cX12_restore 79 = .ok (.iinc 1 1, 3) := by decide +kernel
theorem dX12_restore_82 : decode cX12_restore 82 = .ok (.goto (-39), 3) := by decide +kernel
theorem dX12_restore_85 : decode cX12_restore 85 = .ok (.aload_n 0, 1) := by decide +kernel
theorem dX12_restore_86 : decode cX12_restore 86 = .ok (.getfield 7, 3) := by decide +kernel
theorem dX12_restore_89 : decode cX12_restore 89 = .ok (.sipush 172, 3) := by decide +kernel
theorem dX12_restore_92 : decode cX12_restore 92 = .ok (.iaload, 1) := by decide +kernel
theorem dX12_restore_93 : decode cX12_restore 93 = .ok (.ireturn, 1) := by decide +kernel
theorem dX12_status_0 : decode cX12_status 0 = .ok (.iload_n 1, 1) := by decide +kernel
theorem dX12_status_1 : decode cX12_status 1 = .ok (.iconst 5, 1) := by decide +kernel
theorem dX12_status_2 : decode cX12_status 2 = .ok (.if_icmp .ne 47, 3) := by decide +kernel
theorem dX12_status_5 : decode cX12_status 5 = .ok (.iconst 0, 1) := by decide +kernel
theorem dX12_status_6 : decode cX12_status 6 = .ok (.istore_n 2, 1) := by decide +kernel
theorem dX12_status_7 : decode cX12_status 7 = .ok (.iconst 0, 1) := by decide +kernel
theorem dX12_status_8 : decode cX12_status 8 = .ok (.istore_n 3, 1) := by decide +kernel
theorem dX12_status_9 : decode cX12_status 9 = .ok (.iload_n 3, 1) := by decide +kernel
theorem dX12_status_10 : decode cX12_status 10 = .ok (.aload_n 0, 1) := by decide +kernel
theorem dX12_status_11 : decode cX12_status 11 = .ok (.getfield 7, 3) := by decide +kernel
theorem dX12_status_14 : decode cX12_status 14 = .ok (.sipush 172, 3) := by decide +kernel
theorem dX12_status_17 : decode cX12_status 17 = .ok (.iaload, 1) := by decide +kernel
theorem dX12_status_18 : decode cX12_status 18 = .ok (.if_icmp .ge 29, 3) := by decide +kernel
theorem dX12_status_21 : decode cX12_status 21 = .ok (.iload_n 2, 1) := by decide +kernel
theorem dX12_status_22 : decode cX12_status 22 = .ok (.aload_n 0, 1) := by decide +kernel
theorem dX12_status_23 : decode cX12_status 23 = .ok (.getfield 7, 3) := by decide +kernel
theorem dX12_status_26 : decode cX12_status 26 = .ok (.bipush 96, 2) := by decide +kernel
theorem dX12_status_28 : decode cX12_status 28 = .ok (.iload_n 3, 1) := by decide +kernel
theorem dX12_status_29 : decode cX12_status 29 = .ok (.iadd, 1) := by decide +kernel
theorem dX12_status_30 : decode cX12_status 30 = .ok (.iaload, 1) := by decide +kernel
theorem dX12_status_31 : decode cX12_status 31 = .ok (.ifCond .le 7, 3) := by decide +kernel
theorem dX12_status_34 : decode cX12_status 34 = .ok (.iconst 1, 1) := by decide +kernel
theorem dX12_status_35 : decode cX12_status 35 = .ok (.goto 4, 3) := by decide +kernel
theorem dX12_status_38 : decode cX12_status 38 = .ok (.iconst 0, 1) := by decide +kernel
theorem dX12_status_39 : decode cX12_status 39 = .ok (.iadd, 1) := by decide +kernel
theorem dX12_status_40 : decode cX12_status 40 = .ok (.istore_n 2, 1) := by decide +kernel
theorem dX12_status_41 : decode cX12_status 41 = .ok (.iinc 3 1, 3) := by decide +kernel
theorem dX12_status_44 : decode cX12_status 44 = .ok (.goto (-35), 3) := by decide +kernel
theorem dX12_status_47 : decode cX12_status 47 = .ok (.iload_n 2, 1) := by decide +kernel
theorem dX12_status_48 : decode cX12_status 48 = .ok (.ireturn, 1) := by decide +kernel
theorem dX12_status_49 : decode cX12_status 49 = .ok (.iload_n 1, 1) := by decide +kernel
theorem dX12_status_50 : decode cX12_status 50 = .ok (.bipush 11, 2) := by decide +kernel
theorem dX12_status_52 : decode cX12_status 52 = .ok (.bipush 17, 2) := by decide +kernel
theorem dX12_status_54 : decode cX12_status 54 = .ok (.invokestatic 67, 3) := by decide +kernel
theorem dX12_status_57 : decode cX12_status 57 = .ok (.ifCond .eq 13, 3) := by decide +kernel
theorem dX12_status_60 : decode cX12_status 60 = .ok (.aload_n 0, 1) := by decide +kernel
theorem dX12_status_61 : decode cX12_status 61 = .ok (.getfield 16, 3) := by decide +kernel
theorem dX12_status_64 : decode cX12_status 64 = .ok (.iload_n 1, 1) := by decide +kernel
theorem dX12_status_65 : decode cX12_status 65 = .ok (.bipush 10, 2) := by decide +kernel
theorem dX12_status_67 : decode cX12_status 67 = .ok (.isub, 1) := by decide +kernel
theorem dX12_status_68 : decode cX12_status 68 = .ok (.iaload, 1) := by decide +kernel
theorem dX12_status_69 : decode cX12_status 69 = .ok (.ireturn, 1) := by decide +kernel
theorem dX12_status_70 : decode cX12_status 70 = .ok (.iload_n 1, 1) := by decide +kernel
theorem dX12_status_71 : decode cX12_status 71 = .ok (.ifCond .ne 14, 3) := by decide +kernel
theorem dX12_status_74 : decode cX12_status 74 = .ok (.aload_n 0, 1) := by decide +kernel
theorem dX12_status_75 : decode cX12_status 75 = .ok (.getfield 7, 3) := by decide +kernel
theorem dX12_status_78 : decode cX12_status 78 = .ok (.sipush 172, 3) := by decide +kernel
theorem dX12_status_81 : decode cX12_status 81 = .ok (.iaload, 1) := by decide +kernel
theorem dX12_status_82 : decode cX12_status 82 = .ok (.goto 41, 3) := by decide +kernel
theorem dX12_status_85 : decode cX12_status 85 = .ok (.iload_n 1, 1) := by decide +kernel
theorem dX12_status_86 : decode cX12_status 86 = .ok (.iconst 1, 1) := by decide +kernel
theorem dX12_status_87 : decode cX12_status 87 = .ok (.iconst 4, 1) := by decide +kernel
theorem dX12_status_88 : decode cX12_status 88 = .ok (.invokestatic 67, 3) := by decide +kernel
theorem dX12_status_91 : decode cX12_status 91 = .ok (.ifCond .eq 18, 3) := by decide +kernel
theorem dX12_status_94 : decode cX12_status 94 = .ok (.aload_n 0, 1) := by decide +kernel
theorem dX12_status_95 : decode cX12_status 95 = .ok (.getfield 7, 3) := by decide +kernel
theorem dX12_status_98 : decode cX12_status 98 = .ok (.sipush 168, 3) := by decide +kernel
theorem dX12_status_101 : decode cX12_status 101 = .ok (.iload_n 1, 1) := by decide +kernel
theorem dX12_status_102 : decode cX12_status 102 = .ok (.iadd, 1) := by decide +kernel
theorem dX12_status_103 : decode cX12_status 103 = .ok (.iconst 1, 1) := by decide +kernel
theorem dX12_status_104 : decode cX12_status 104 = .ok (.isub, 1) := by decide +kernel
theorem dX12_status_105 : decode cX12_status 105 = .ok (.iaload, 1) := by decide +kernel
theorem dX12_status_106 : decode cX12_status 106 = .ok (.goto 17, 3) := by decide +kernel
theorem dX12_status_109 : decode cX12_status 109 = .ok (.iload_n 1, 1) := by decide +kernel
theorem dX12_status_110 : decode cX12_status 110 = .ok (.bipush 6, 2) := by decide +kernel
theorem dX12_status_112 : decode cX12_status 112 = .ok (.if_icmp .ne 10, 3) := by decide +kernel
theorem dX12_status_115 : decode cX12_status 115 = .ok (.aload_n 0, 1) := by decide +kernel
theorem dX12_status_116 : decode cX12_status 116 = .ok (.getfield 266, 3) := by decide +kernel
theorem dX12_status_119 : decode cX12_status 119 = .ok (.goto 4, 3) := by decide +kernel
theorem dX12_status_122 : decode cX12_status 122 = .ok (.iconst (-1), 1) := by decide +kernel
theorem dX12_status_123 : decode cX12_status 123 = .ok (.ireturn, 1) := by decide +kernel
